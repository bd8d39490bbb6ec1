-- WAYS, by the model
def wayR (a : AS) (x y : Int32) (v : Int64) : Prop := ((¬ vp_in x 5 ∨ nR a = 0) ∧ v = -2) ∨ (vp_in x 5 ∧ nR a ≠ 0 ∧ 1000 < (KK a).length ∧ v = -3) ∨ (vp_in x 5 ∧ nR a ≠ 0 ∧ (KK a).length ≤ 1000 ∧ ¬ vp_in y (KK a).length ∧ v = -2) ∨ (vp_in x 5 ∧ nR a ≠ 0 ∧ (KK a).length ≤ 1000 ∧ ∃ k j, k < 5 ∧ x = nI k ∧ j < (KK a).length ∧ y = nI j ∧ v = lN (Wv a (rkN a) k j))
theorem wayR_un {a : AS} {x y : Int32} {v w : Int64} (h : wayR a x y v) (k : wayR a x y w) : v = w := by
  rcases h with ⟨h1, h2⟩ | ⟨h1, h2, h3, h4⟩ | ⟨h1, h2, h3, h4, h5⟩ | ⟨h1, h2, h3, i, j, h4, h5, h6, h7, h8⟩ <;> rcases k with ⟨k1, k2⟩ | ⟨k1, k2, k3, k4⟩ | ⟨k1, k2, k3, k4, k5⟩ | ⟨k1, k2, k3, i', j', k4, k5, k6, k7, k8⟩
  · rw [h2, k2]
  · rcases h1 with z | z
    · exact absurd k1 z
    · exact absurd z k2
  · rcases h1 with z | z
    · exact absurd k1 z
    · exact absurd z k2
  · rcases h1 with z | z
    · exact absurd k1 z
    · exact absurd z k2
  · rcases k1 with z | z
    · exact absurd h1 z
    · exact absurd z h2
  · rw [h4, k4]
  · omega
  · omega
  · rcases k1 with z | z
    · exact absurd h1 z
    · exact absurd z h2
  · omega
  · rw [h5, k5]
  · exact absurd (by rw [k7]; exact vp_in_nI k6 (by omega)) h4
  · rcases k1 with z | z
    · exact absurd h1 z
    · exact absurd z h2
  · omega
  · exact absurd (by rw [h7]; exact vp_in_nI h6 (by omega)) k4
  · have e1 : i = i' := (nI_eq (by omega) (by omega)).mp (h5.symm.trans k5)
    have e2 : j = j' := (nI_eq (by omega) (by omega)).mp (h7.symm.trans k7)
    rw [h8, k8, e1, e2]
theorem lN_le0 {m : Nat} (h : m < 2 ^ 62) : lN m ≤ 0 ↔ m = 0 := by
  have := lNle (m := m) (n := 0) (by omega) (by omega)
  rw [show (0 : Int64) = lN 0 from rfl, this]
  omega
section MWy
variable {g : GX} {d : Nat} {ρ : Rs} {S : St} {a : AS}
theorem MG.l {j : Nat} {v : Int64} {k : Nat} (h : MG a S) (hk : k = 93 ∨ k = 94) : MG a (setL S k j v) := h.fr (F := fun i => i = 93 ∨ i = 94) (by omega) (Fr.setL (F := fun i => i = 93 ∨ i = 94) _ _ _ hk)
theorem sM_goesOn {Q : St → Prop} (hρ : Ok ρ) (hF : ∀ k ∈ ([90, 93, 94] : List Nat), gF g k) (hW : WF a) (hR : nR a ≠ 0) (hG : MG a S) (hn : (KK a).length ≤ 1000) {f : Nat → Nat} (hf : ∀ i, i < (KK a).length → f i < 2 ^ 62) (e93 : ∀ i, i < (KK a).length → S.2 93 i = lN (f i)) (hq : ∀ S', MG a S' → (∀ j, j < (KK a).length → S'.2 93 j = lN (sg (fun i => f i * sg (fun c => ind (vC a c ∧ dsC a i c = j)) 256) (KK a).length)) → Q S') : CALLv g (d + 4) mX12_goesOn [.ref 80] ρ ρ S Q := by
  have hF9 : gF g 90 := hF 90 (by simp)
  have hF93 : ∀ k ∈ ([93] : List Nat), gF g k := fun k hk => hF k (by simp at hk; simp [hk])
  have hF94 : ∀ k ∈ ([94] : List Nat), gF g k := fun k hk => hF k (by simp at hk; simp [hk])
  refine eX12_goesOn hρ ?_
  -- the last: what is laid goes over
  have k3 : ∀ (P : Nat → Nat) n i S1, n + i = (KK a).length → MG a S1 → (∀ j, j < (KK a).length → S1.2 94 j = lN (P j)) → (∀ j, j < i → S1.2 93 j = lN (P j)) → (∀ S', MG a S' → (∀ j, j < (KK a).length → S'.2 93 j = lN (P j)) → Q S') → AW g ρ (QV Q) (d + 3 + 1) mX12_goesOn 115 [(0, .ref 80), (1, .int (nI i))] [] ρ S1 := by
    intro P n
    induction n with
    | zero =>
      intro i S1 hk g1 e4 e3 hq
      refine eX12_goesOn_115 hρ hF93 ?_
      rw [g1.2.2, if_pos (nI_le (by omega) (by omega))]
      exact hq S1 g1 (fun j hj => e3 j (by omega))
    | succ n ih =>
      intro i S1 hk g1 e4 e3 hq
      refine eX12_goesOn_115 hρ hF93 ?_
      rw [g1.2.2, if_neg (nI_ge (by omega) (by omega)), nI_clamp (by omega), nI_1]
      refine ⟨vp_in_nI (by omega) (by omega), vp_in_nI (by omega) (by omega), ?_⟩
      refine ih (i + 1) _ (by omega) (g1.l (Or.inl rfl)) (fun j hj => ?_) (fun j hj => ?_) hq
      · rw [setL_at, if_neg (fun z => absurd z.1 (by decide))]; exact e4 j hj
      · rw [setL_at]
        by_cases c : j = i
        · rw [if_pos ⟨rfl, c⟩, c]; exact e4 i (by omega)
        · rw [if_neg (fun z => c z.2)]; exact e3 j (by omega)
  -- in the middle
  have k2 : ∀ n k S1, n + k = (KK a).length → MG a S1 → (∀ j, j < (KK a).length → S1.2 93 j = lN (f j)) → (∀ j, j < (KK a).length → S1.2 94 j = lN (sg (fun i => f i * sg (fun c => ind (vC a c ∧ dsC a i c = j)) 256) k)) → AW g ρ (QV Q) (d + 3 + 1) mX12_goesOn 25 [(0, .ref 80), (1, .int (nI k))] [] ρ S1 := by
    intro n
    induction n with
    | zero =>
      intro k S1 hk g1 e3 e4
      refine eX12_goesOn_25 hρ ?_
      rw [g1.2.2, if_pos (nI_le (by omega) (by omega))]
      rw [show k = (KK a).length by omega] at e4
      exact k3 _ (KK a).length 0 S1 (by omega) g1 e4 (fun j hj => absurd hj (by omega)) hq
    | succ n ih =>
      intro k S1 hk g1 e3 e4
      have hkn : k < (KK a).length := by omega
      refine eX12_goesOn_25 hρ ?_
      rw [g1.2.2, if_neg (nI_ge (by omega) (by omega))]
      have ch : ∀ m c S2, m + c = 256 → MG a S2 → (∀ j, j < (KK a).length → S2.2 93 j = lN (f j)) → (∀ j, j < (KK a).length → S2.2 94 j = lN (sg (fun i => f i * sg (fun c => ind (vC a c ∧ dsC a i c = j)) 256) k + f k * sg (fun c => ind (vC a c ∧ dsC a k c = j)) c)) → AW g ρ (QV Q) (d + 3 + 1) mX12_goesOn 35 [(0, .ref 80), (1, .int (nI k)), (2, .int (nI c))] [] ρ S2 := by
        intro m
        induction m with
        | zero =>
          intro c S2 hc g2 e3 e4
          refine eX12_goesOn_35 hρ hF94 (eX12_choices hρ ?_)
          rw [if_pos (show (256 : Int32) ≤ nI c from nI_le (a := 256) (by omega) (by omega)), nI_1]
          refine ih (k + 1) S2 (by omega) g2 e3 (fun j hj => ?_)
          rw [e4 j hj, show c = 256 by omega]
          rfl
        | succ m ihm =>
          intro c S2 hc g2 e3 e4
          have go : ∀ S3, MG a S3 → S3.2 93 = S2.2 93 → S3.2 94 = S2.2 94 → vC a c → AW g ρ (QV Q) (d + 3 + 1) mX12_goesOn 35 [(0, .ref 80), (1, .int (nI k)), (2, .int (nI c + 1))] [] ρ (setL S3 94 (dsC a k c) (S3.2 94 (dsC a k c) + S3.2 93 k)) := by
            intro S3 g3 q3 q4 hv
            rw [nI_1]
            refine ihm (c + 1) _ (by omega) (g3.l (Or.inr rfl)) (fun j hj => ?_) (fun j hj => ?_)
            · rw [setL_at, if_neg (fun z => absurd z.1 (by decide)), q3]; exact e3 j hj
            · show _ = lN (_ + f k * (sg (fun c => ind (vC a c ∧ dsC a k c = j)) c + ind (vC a c ∧ dsC a k c = j)))
              rw [setL_at, Nat.mul_add, ← Nat.add_assoc]
              by_cases q : dsC a k c = j
              · rw [if_pos ⟨rfl, q.symm⟩, ind_y ⟨hv, q⟩, Nat.mul_one, q3, q4, q, e4 j hj, e3 k hkn, lN_add]
              · rw [if_neg (fun z => q z.2.symm), ind_n (fun z => q z.2), Nat.mul_zero, Nat.add_zero, q4]
                exact e4 j hj
          refine eX12_goesOn_35 hρ hF94 (eX12_choices hρ ?_)
          rw [if_neg (show ¬ (256 : Int32) ≤ nI c from nI_ge (b := 256) (by omega) (by omega)), nI_clamp (show k < 2 ^ 31 by omega)]
          have vk : vp_in (nI k) 1000 := vp_in_nI (by omega) (by omega)
          refine ⟨vk, ?_⟩
          rw [e3 k hkn]
          by_cases z0 : f k = 0
          · rw [if_pos ((lN_le0 (hf k hkn)).mpr z0), nI_1]
            refine ih (k + 1) S2 (by omega) g2 e3 (fun j hj => ?_)
            rw [e4 j hj]
            show _ = lN (_ + f k * _)
            rw [z0, Nat.zero_mul, Nat.zero_mul]
          rw [if_neg (fun z => z0 ((lN_le0 (hf k hkn)).mp z))]
          rw [show d + 3 = d + 1 + 2 by omega]
          refine sM_moreOf hρ hW g2.1 (by omega) (fun hv => ?_) (fun hv => ?_)
          · obtain ⟨w1, w2, w3, w4, w5, w6⟩ := vC_m hW hv
            rw [if_neg (show ¬ nI (2 ^ (c / 64 * nC a + c / 4 % 4) ||| 2 ^ (c / 16 % 4 * nC a + c % 4)) ≤ (0 : Int32) from nI_ge (a := 0) (or2_pos _ _) (by omega))]
            refine sM_lessOf hρ hW g2.1 (by omega) hv ?_
            rw [show d + 1 + 2 = d + 3 by omega]
            refine sM_comesOf hρ hF9 hW hR g2.1 g2.2.1 hn g2.2.2 hkn w1 w2 w3 w5 w6 w4 (fun hok S3 f3 => ?_) (fun hno => ?_)
            · have hnx := (nxI_ok hW hR hkn (m4_of hW w1) w2 hok).1
              have vn : vp_in (nI (nxI a k (mC c))) 1000 := vp_in_nI (by omega) (by omega)
              rw [if_pos (show (0 : Int32) ≤ nI (nxI a k (mC c)) from nI_le (a := 0) (by omega) (by omega)), nI_clamp (show nxI a k (mC c) < 2 ^ 31 by omega)]
              refine ⟨vn, vk, vn, ?_⟩
              have := go S3 (g2.fr (F := fun k => k = 90) (by omega) f3) (f3 93 (by decide)).2 (f3 94 (by decide)).2 hv
              rw [dsC_y hok] at this
              exact this
            · rw [if_neg (by decide)]
              refine ⟨vk, vk, vk, ?_⟩
              have := go S2 g2 rfl rfl hv
              rw [dsC_n hno, e3 k hkn] at this
              rw [e3 k hkn]
              exact this
          · rw [if_pos (by decide), show d + 1 + 2 = d + 3 by omega, nI_1]
            refine ihm (c + 1) S2 (by omega) g2 e3 (fun j hj => ?_)
            rw [e4 j hj]
            show _ = lN (_ + f k * (_ + ind (vC a c ∧ dsC a k c = j)))
            rw [ind_n (fun z => hv z.1), Nat.add_zero]
      refine ch 256 0 S1 (by omega) g1 e3 (fun j hj => ?_)
      rw [e4 j hj]
      show _ = lN (_ + f k * 0)
      rw [Nat.mul_zero, Nat.add_zero]
  -- at first noughts
  have k1 : ∀ n i S1, n + i = (KK a).length → MG a S1 → (∀ j, j < (KK a).length → S1.2 93 j = lN (f j)) → (∀ j, j < i → S1.2 94 j = 0) → AW g ρ (QV Q) (d + 3 + 1) mX12_goesOn 2 [(0, .ref 80), (1, .int (nI i))] [] ρ S1 := by
    intro n
    induction n with
    | zero =>
      intro i S1 hk g1 e3 e4
      refine eX12_goesOn_2 hρ hF94 ?_
      rw [g1.2.2, if_pos (nI_le (by omega) (by omega))]
      exact k2 (KK a).length 0 S1 (by omega) g1 e3 (fun j hj => e4 j (by omega))
    | succ n ih =>
      intro i S1 hk g1 e3 e4
      refine eX12_goesOn_2 hρ hF94 ?_
      rw [g1.2.2, if_neg (nI_ge (by omega) (by omega)), nI_clamp (by omega), nI_1]
      refine ⟨vp_in_nI (by omega) (by omega), ?_⟩
      refine ih (i + 1) _ (by omega) (g1.l (Or.inr rfl)) (fun j hj => ?_) (fun j hj => ?_)
      · rw [setL_at, if_neg (fun z => absurd z.1 (by decide))]; exact e3 j hj
      · rw [setL_at]
        by_cases c : j = i
        · rw [if_pos ⟨rfl, c⟩]
        · rw [if_neg (fun z => c z.2)]; exact e4 j (by omega)
  exact k1 (KK a).length 0 S (by omega) hG e93 (fun j hj => absurd hj (by omega))
theorem sM_ways {Q : Int64 → St → Prop} {x y : Int32} (hρ : Ok ρ) (hF : ∀ k ∈ ([80, 85, 86, 87, 89, 90, 93, 94] : List Nat), gF g k) (hW : WF a) (hI : IM a S) (hq : ∀ v S', wayR a x y v → IM a S' → Q v S') : CALLl g (d + 22) mX12_ways [.ref 80, .int x, .int y] ρ ρ S Q := by
  have hF5 : ∀ k ∈ ([80, 85, 86, 87, 89] : List Nat), gF g k := fun k hk => hF k (by simp at hk; rcases hk with z | z | z | z | z <;> simp [z])
  have hF3 : ∀ k ∈ ([90, 93, 94] : List Nat), gF g k := fun k hk => hF k (by simp at hk; rcases hk with z | z | z <;> simp [z])
  have hF1 : ∀ k ∈ ([85] : List Nat), gF g k := fun k hk => hF k (by simp at hk; simp [hk])
  have hF93 : ∀ k ∈ ([93] : List Nat), gF g k := fun k hk => hF k (by simp at hk; simp [hk])
  refine eX12_ways hρ (sM_in hρ ?_)
  by_cases c0 : vp_in x 5
  rotate_left
  · rw [if_neg (fun z => c0 (in04.mp z)), if_pos rfl]
    exact hq _ S (Or.inl ⟨Or.inl c0, rfl⟩) hI
  rw [if_pos (in04.mpr c0), if_neg (by decide)]
  refine sM_is hρ hW hI ?_
  by_cases c : nR a = 0
  · rw [if_pos c, if_pos rfl]
    exact hq _ S (Or.inl ⟨Or.inr c, rfl⟩) hI
  rw [if_neg c, if_neg (by decide)]
  refine sM_listsAll hρ hF5 hW c hI (fun hl S1 i1 e1 l1 => ?_) (fun hl S1 i1 => ?_)
  rotate_left
  · rw [if_pos rfl]
    exact hq _ S1 (Or.inr (Or.inl ⟨c0, c, hl, rfl⟩)) i1
  rw [if_neg (by decide), e1]
  refine sM_in hρ ?_
  by_cases c2 : vp_in y (KK a).length
  rotate_left
  · rw [if_neg (fun z => c2 ((in64 (by omega)).mp z)), if_pos rfl]
    exact hq _ S1 (Or.inr (Or.inr (Or.inl ⟨c0, c, hl, c2, rfl⟩))) i1
  rw [if_pos ((in64 (by omega)).mpr c2), if_neg (by decide)]
  obtain ⟨kx, hkx, ex⟩ := vp_in_of c0 (by omega)
  obtain ⟨jy, hjy, ey⟩ := vp_in_of c2 (by omega)
  obtain ⟨r1, r2, r3⟩ := KK_cel hW c
  have g1 : MG a S1 := ⟨i1, l1, e1⟩
  refine sM_laysNow (d := d + 20) hρ hF1 hW i1 (fun S2 v2 k2 d2 => ?_)
  have g2 : MG a S2 := g1.fr (F := fun k => k = 85) (by omega) (fun k hk => ⟨k2 k hk, by rw [v2]⟩)
  refine sM_listedAt (d := d + 19) (i := rkN a) (L := KK a) (k2 := 85) (n2 := 16) hρ hW c g2.1 (by decide) (okn hρ (by decide)) sh85 (by decide) (by decide) (fun p hp => hp) (KK_sorted a) g2.2.1 hl g2.2.2 r1 (fun j hj => ?_) ?_
  · have hC : 0 < nC a := Nat.pos_of_ne_zero (fun z => by rw [z, Nat.mul_zero] at hj; omega)
    have hj2 : j / nC a < nR a := Nat.div_lt_of_lt_mul (by rw [Nat.mul_comm]; exact hj)
    have := d2 (j / nC a) (j % nC a) hj2 (Nat.mod_lt _ hC)
    rw [show j / nC a * nC a + j % nC a = j from by rw [Nat.mul_comm]; exact Nat.div_add_mod j (nC a)] at this
    rw [Nat.zero_add, this, r3]
    rfl
  have k2 : ∀ n k S1, n + k = kx → MG a S1 → (∀ j, j < (KK a).length → S1.2 93 j = lN (Wv a (rkN a) k j)) → AW g ρ (QJ Q) (d + 21 + 1) mX12_ways 107 [(0, .ref 80), (1, .int x), (2, .int y), (4, .int (nI k))] [] ρ S1 := by
    intro n
    induction n with
    | zero =>
      intro k S1 hk g1 e1
      refine eX12_ways_107 hρ ?_
      rw [ex, if_pos (nI_le (by omega) (by omega)), ey, nI_clamp (by omega)]
      refine ⟨vp_in_nI (by omega) (by omega), ?_⟩
      rw [e1 jy hjy]
      exact hq _ S1 (Or.inr (Or.inr (Or.inr ⟨c0, c, hl, kx, jy, hkx, ex, hjy, ey, by rw [show k = kx by omega]⟩))) g1.1
    | succ n ih =>
      intro k S1 hk g1 e1
      refine eX12_ways_107 hρ ?_
      rw [if_neg (show ¬ x ≤ nI k by rw [ex]; exact nI_ge (by omega) (by omega))]
      refine sM_goesOn (d := d + 17) hρ hF3 hW c g1 hl (fun i hi => Wv_lt hW c (k := k) (by omega) hi) e1 (fun S2 g2 e2 => ?_)
      rw [nI_1]
      refine ih (k + 1) S2 (by omega) g2 (fun j hj => ?_)
      rw [e2 j hj, Wv_push hW c hj]
  have k1 : ∀ n i S1, n + i = (KK a).length → MG a S1 → (∀ j, j < i → S1.2 93 j = lN (Wv a (rkN a) 0 j)) → AW g ρ (QJ Q) (d + 21 + 1) mX12_ways 71 [(0, .ref 80), (1, .int x), (2, .int y), (3, .int (nI (rkN a))), (4, .int (nI i))] [] ρ S1 := by
    intro n
    induction n with
    | zero =>
      intro i S1 hk g1 e1
      refine eX12_ways_71 hρ hF93 ?_
      rw [g1.2.2, if_pos (nI_le (by omega) (by omega))]
      exact k2 kx 0 S1 (by omega) g1 (fun j hj => e1 j (by omega))
    | succ n ih =>
      intro i S1 hk g1 e1
      refine eX12_ways_71 hρ hF93 ?_
      rw [g1.2.2, if_neg (nI_ge (by omega) (by omega)), nI_clamp (by omega), nI_1]
      have w0 : Wv a (rkN a) 0 i = if i = rkN a then 1 else 0 := rfl
      by_cases q : i = rkN a
      · rw [if_pos (show nI i = nI (rkN a) by rw [q])]
        refine ⟨vp_in_nI (by omega) (by omega), ih (i + 1) _ (by omega) (g1.l (Or.inl rfl)) (fun j hj => ?_)⟩
        rw [setL_at]
        by_cases e : j = i
        · rw [if_pos ⟨rfl, e⟩, e, w0, if_pos q]; rfl
        · rw [if_neg (fun z => e z.2)]; exact e1 j (by omega)
      · rw [if_neg (fun z => q ((nI_eq (by omega) (by omega)).mp z))]
        refine ⟨vp_in_nI (by omega) (by omega), ih (i + 1) _ (by omega) (g1.l (Or.inl rfl)) (fun j hj => ?_)⟩
        rw [setL_at]
        by_cases e : j = i
        · rw [if_pos ⟨rfl, e⟩, e, w0, if_neg q]; rfl
        · rw [if_neg (fun z => e z.2)]; exact e1 j (by omega)
  exact k1 (KK a).length 0 S2 (by omega) g2 (fun j hj => absurd hj (by omega))
end MWy
