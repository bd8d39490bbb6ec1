theorem sh85 {ρ : Rs} : shp ρ 85 = .inr (0, 16) := by
  unfold shp
  rw [if_pos (by decide)]
  rfl
theorem in40 {x : Int32} : ((0 : Int64) ≤ x.toInt64 ∧ x.toInt64 ≤ 40) ↔ vp_in x 41 := in64b (n := 40) (by omega)
theorem in04 {x : Int32} : ((0 : Int64) ≤ x.toInt64 ∧ x.toInt64 ≤ 4) ↔ vp_in x 5 := in64b (n := 4) (by omega)
section MY
variable {g : GX} {d : Nat} {ρ : Rs} {S : St} {a : AS}
theorem sM_spread1 {Q : Int32 → St → Prop} {s : Nat} (hρ : Ok ρ) (hF : ∀ k ∈ ([80, 90, 91, 92] : List Nat), gF g k) (hW : WF a) (hR : nR a ≠ 0) (hG : MG a S) (hn : (KK a).length ≤ 1000) (hs : s < (KK a).length) (hM : ∀ v, v < 1000 → S.1 91 v = -1) (h36 : S.1 80 36 = 0) (hq : ∀ v S' q, MG a S' → DM (adjS a) (KK a).length s (S'.1 91) → RC (adjS a) s q → S'.1 80 36 = nI q.length → Q v S') : CALLi g (d + 5) mX12_spreads [.ref 80, .int (nI s), .int 0] ρ ρ S Q := by
  refine sM_spreads (Q0 := []) false hρ hF hW hR hG hn hs List.nodup_nil (fun v hv => absurd hv (by simp)) (fun v hv => ⟨fun z => absurd z (by simp), fun _ => hM v (by omega)⟩) h36 (fun z => absurd z (by simp)) (fun _ S' f q g' p' s' => ?_)
  obtain ⟨k1, k2⟩ := p'.dm (F := S'.1 91) (fun v hv => ⟨fun z => by have := (s'.2.2 v hv).1 z; rw [Nat.zero_add, Nat.one_mul] at this; exact this, fun z => (s'.2.2 v hv).2.2 (by simp) z⟩)
  refine hq _ S' q g' k1 k2 ?_
  have := s'.1
  rw [List.length_nil, Nat.zero_add] at this
  exact this
theorem sM_whyNot {Q : Int32 → St → Prop} {x : Int32} (hρ : Ok ρ) (hF : ∀ k ∈ ([80, 85, 86, 87, 89, 90, 91, 92] : List Nat), gF g k) (hW : WF a) (hI : IM a S) (h2 : nR a = 0 ∨ (nR a ≠ 0 ∧ (KK a).length ≤ 1000 ∧ ¬ vp_in x (KK a).length) → ∀ S', IM a S' → Q (-2) S') (h3 : nR a ≠ 0 → 1000 < (KK a).length → ∀ S', IM a S' → Q (-3) S') (h1 : nR a ≠ 0 → (KK a).length ≤ 1000 → ∀ i S' q, i < (KK a).length → x = nI i → MG a S' → DM (adjS a) (KK a).length i (S'.1 91) → RC (adjS a) i q → S'.1 80 36 = nI q.length → Q 0 S') : CALLi g (d + 22) mX12_whyNot [.ref 80, .int x] ρ ρ S Q := by
  have hF5 : ∀ k ∈ ([80, 85, 86, 87, 89] : List Nat), gF g k := fun k hk => hF k (by simp at hk; rcases hk with z | z | z | z | z <;> simp [z])
  have hF2 : ∀ k ∈ ([80, 91] : List Nat), gF g k := fun k hk => hF k (by simp at hk; rcases hk with z | z <;> simp [z])
  have hF4 : ∀ k ∈ ([80, 90, 91, 92] : List Nat), gF g k := fun k hk => hF k (by simp at hk; rcases hk with z | z | z | z <;> simp [z])
  refine eX12_whyNot hρ (sM_is hρ hW hI ?_)
  by_cases c : nR a = 0
  · rw [if_pos c, if_pos rfl]
    exact h2 (Or.inl c) S hI
  rw [if_neg c, if_neg (by decide)]
  refine sM_listsAll hρ hF5 hW c hI (fun hl S1 i1 e1 l1 => ?_) (fun hl S1 i1 => ?_)
  rotate_left
  · rw [if_pos rfl]
    exact h3 c hl S1 i1
  rw [if_neg (by decide), e1]
  refine sM_in hρ ?_
  by_cases c2 : vp_in x (KK a).length
  · rw [if_pos ((in64 (by omega)).mpr c2), if_neg (by decide)]
    obtain ⟨i, hi, ei⟩ := vp_in_of c2 (by omega)
    refine sM_begins hρ hF2 ⟨i1, l1, e1⟩ (fun S2 g2 m2 q2 _ => ?_)
    rw [ei]
    exact sM_spread1 (d := d + 16) hρ hF4 hW c g2 hl hi m2 q2 (fun v S3 q g3 k1 k2 k3 => h1 c hl i S3 q hi ei g3 k1 k2 k3)
  · rw [if_neg (fun z => c2 ((in64 (by omega)).mp z)), if_pos rfl]
    exact h2 (Or.inr ⟨c, hl, c2⟩) S1 i1
theorem sM_whyNotNow {Q : Int32 → St → Prop} (hρ : Ok ρ) (hF : ∀ k ∈ ([80, 85, 86, 87, 89, 90, 91, 92] : List Nat), gF g k) (hW : WF a) (hI : IM a S) (h2 : nR a = 0 → ∀ S', IM a S' → Q (-2) S') (h3 : nR a ≠ 0 → 1000 < (KK a).length → ∀ S', IM a S' → Q (-3) S') (h1 : nR a ≠ 0 → (KK a).length ≤ 1000 → ∀ S', MG a S' → DM (adjS a) (KK a).length (rkN a) (S'.1 91) → Q 0 S') : CALLi g (d + 22) mX12_whyNotNow [.ref 80] ρ ρ S Q := by
  have hF5 : ∀ k ∈ ([80, 85, 86, 87, 89] : List Nat), gF g k := fun k hk => hF k (by simp at hk; rcases hk with z | z | z | z | z <;> simp [z])
  have hF2 : ∀ k ∈ ([80, 91] : List Nat), gF g k := fun k hk => hF k (by simp at hk; rcases hk with z | z <;> simp [z])
  have hF4 : ∀ k ∈ ([80, 90, 91, 92] : List Nat), gF g k := fun k hk => hF k (by simp at hk; rcases hk with z | z | z | z <;> simp [z])
  have hF1 : ∀ k ∈ ([85] : List Nat), gF g k := fun k hk => hF k (by simp at hk; simp [hk])
  refine eX12_whyNotNow hρ (sM_is hρ hW hI ?_)
  by_cases c : nR a = 0
  · rw [if_pos c, if_pos rfl]
    exact h2 c S hI
  rw [if_neg c, if_neg (by decide)]
  refine sM_listsAll hρ hF5 hW c hI (fun hl S1 i1 e1 l1 => ?_) (fun hl S1 i1 => ?_)
  rotate_left
  · rw [if_pos rfl]
    exact h3 c hl S1 i1
  rw [if_neg (by decide)]
  obtain ⟨r1, r2, r3⟩ := KK_cel hW c
  have g1 : MG a S1 := ⟨i1, l1, e1⟩
  refine sM_laysNow (d := d + 20) hρ hF1 hW i1 (fun S2 v2 k2 c2 => ?_)
  have g2 : MG a S2 := g1.fr (F := fun k => k = 85) (by omega) (fun k hk => ⟨k2 k hk, by rw [v2]⟩)
  refine sM_begins hρ hF2 g2 (fun S3 g3 m3 q3 k3 => ?_)
  refine sM_listedAt (d := d + 19) (i := rkN a) (L := KK a) (k2 := 85) (n2 := 16) hρ hW c g3.1 (by decide) (okn hρ (by decide)) sh85 (by decide) (by decide) (fun p hp => hp) (KK_sorted a) g3.2.1 hl g3.2.2 r1 (fun j hj => ?_) ?_
  · have hC : 0 < nC a := Nat.pos_of_ne_zero (fun z => by rw [z, Nat.mul_zero] at hj; omega)
    have hj2 : j / nC a < nR a := Nat.div_lt_of_lt_mul (by rw [Nat.mul_comm]; exact hj)
    have := c2 (j / nC a) (j % nC a) hj2 (Nat.mod_lt _ hC)
    rw [show j / nC a * nC a + j % nC a = j from by rw [Nat.mul_comm]; exact Nat.div_add_mod j (nC a)] at this
    rw [Nat.zero_add, k3 85 (by decide) (by decide), this, r3]
    rfl
  · exact sM_spread1 (d := d + 16) hρ hF4 hW c g3 hl r1 m3 q3 (fun v S4 q g4 k1 _ _ => h1 c hl S4 g4 k1)
theorem sM_classOf {Q : Int32 → St → Prop} {x : Int32} (hρ : Ok ρ) (hF : ∀ k ∈ ([80, 85, 86, 87, 89, 90, 91, 92] : List Nat), gF g k) (hW : WF a) (hI : IM a S) (hq : ∀ v S', RfR a x (cofC a) v → IM a S' → Q v S') : CALLi g (d + 23) mX12_classOf [.ref 80, .int x] ρ ρ S Q := by
  refine eX12_classOf hρ (sM_whyNot hρ hF hW hI (fun z S' i' => ?_) (fun z1 z2 S' i' => ?_) (fun z1 z2 i S' q hi ei g' k1 k2 k3 => ?_))
  · rw [if_neg (by decide)]
    refine hq _ S' ?_ i'
    rcases z with z | z
    · exact Or.inl ⟨z, rfl⟩
    · exact Or.inr (Or.inr (Or.inl ⟨z.1, z.2.1, z.2.2, rfl⟩))
  · rw [if_neg (by decide)]
    exact hq _ S' (Or.inr (Or.inl ⟨z1, z2, rfl⟩)) i'
  · rw [if_pos (by decide)]
    have key : ∀ n k, n + k = i → (∀ j, j < k → ¬ rch (adjS a) i j) → AW g ρ (QI Q) (d + 22 + 1) mX12_classOf 14 [(0, .ref 80), (3, .int (nI k))] [] ρ S' := by
      intro n
      induction n with
      | zero =>
        intro k hk hj
        refine eX12_classOf_14 hρ ⟨vp_in_nI (by omega) (by omega), ?_⟩
        have e : k = i := by omega
        rw [nI_clamp (by omega), e, k1.self hi, if_pos (by decide)]
        refine hq _ S' (Or.inr (Or.inr (Or.inr ⟨z1, z2, i, hi, ei, i, hi, ⟨0, rfl⟩, fun j h => hj j (by omega), rfl⟩))) g'.1
      | succ n ih =>
        intro k hk hj
        refine eX12_classOf_14 hρ ⟨vp_in_nI (by omega) (by omega), ?_⟩
        rw [nI_clamp (by omega), nI_1]
        by_cases c : rch (adjS a) i k
        · rw [if_pos ((k1.ge z2 (by omega)).mpr c)]
          exact hq _ S' (Or.inr (Or.inr (Or.inr ⟨z1, z2, i, hi, ei, k, by omega, c, hj, rfl⟩))) g'.1
        · rw [if_neg (fun z => c ((k1.ge z2 (by omega)).mp z))]
          refine ih (k + 1) (by omega) (fun j h => ?_)
          by_cases e : j = k
          · rw [e]; exact c
          · exact hj j (by omega)
    exact key i 0 (by omega) (fun j h => absurd h (by omega))
theorem sM_sized {Q : Int32 → St → Prop} {x : Int32} (hρ : Ok ρ) (hF : ∀ k ∈ ([80, 85, 86, 87, 89, 90, 91, 92] : List Nat), gF g k) (hW : WF a) (hI : IM a S) (hq : ∀ v S', RfR a x (sizC a) v → IM a S' → Q v S') : CALLi g (d + 23) mX12_sized [.ref 80, .int x] ρ ρ S Q := by
  refine eX12_sized hρ (sM_whyNot hρ hF hW hI (fun z S' i' => ?_) (fun z1 z2 S' i' => ?_) (fun z1 z2 i S' q hi ei g' k1 k2 k3 => ?_))
  · rw [if_neg (by decide)]
    refine hq _ S' ?_ i'
    rcases z with z | z
    · exact Or.inl ⟨z, rfl⟩
    · exact Or.inr (Or.inr (Or.inl ⟨z.1, z.2.1, z.2.2, rfl⟩))
  · rw [if_neg (by decide)]
    exact hq _ S' (Or.inr (Or.inl ⟨z1, z2, rfl⟩)) i'
  · rw [if_pos (by decide)]
    exact hq _ S' (Or.inr (Or.inr (Or.inr ⟨z1, z2, i, hi, ei, q, k2, k3⟩))) g'.1
theorem sM_apart {Q : Int32 → St → Prop} {x y : Int32} (hρ : Ok ρ) (hF : ∀ k ∈ ([80, 85, 86, 87, 89, 90, 91, 92] : List Nat), gF g k) (hW : WF a) (hI : IM a S) (hq : ∀ v S', RfR a x (aptC a y) v → IM a S' → Q v S') : CALLi g (d + 23) mX12_apart [.ref 80, .int x, .int y] ρ ρ S Q := by
  refine eX12_apart hρ (sM_whyNot hρ hF hW hI (fun z S' i' => ?_) (fun z1 z2 S' i' => ?_) (fun z1 z2 i S' q hi ei g' k1 k2 k3 => ?_))
  · rw [if_neg (by decide)]
    refine hq _ S' ?_ i'
    rcases z with z | z
    · exact Or.inl ⟨z, rfl⟩
    · exact Or.inr (Or.inr (Or.inl ⟨z.1, z.2.1, z.2.2, rfl⟩))
  · rw [if_neg (by decide)]
    exact hq _ S' (Or.inr (Or.inl ⟨z1, z2, rfl⟩)) i'
  · rw [if_pos (by decide), g'.2.2]
    refine sM_in hρ ?_
    by_cases c2 : vp_in y (KK a).length
    · rw [if_pos ((in64 (by omega)).mpr c2), if_neg (by decide)]
      obtain ⟨j, hj, ej⟩ := vp_in_of c2 (by omega)
      rw [ej, nI_clamp (by omega)]
      exact ⟨vp_in_nI (by omega) (by omega), hq _ S' (Or.inr (Or.inr (Or.inr ⟨z1, z2, i, hi, ei, Or.inr ⟨j, hj, ej, k1 j hj⟩⟩))) g'.1⟩
    · rw [if_neg (fun z => c2 ((in64 (by omega)).mp z)), if_pos rfl]
      exact hq _ S' (Or.inr (Or.inr (Or.inr ⟨z1, z2, i, hi, ei, Or.inl ⟨c2, rfl⟩⟩))) g'.1
theorem sM_farOf {Q : Int32 → St → Prop} (hρ : Ok ρ) (hG : MG a S) (hn : (KK a).length ≤ 1000) (hq : Q (mxI (S.1 91) (KK a).length) S) : CALLi g (d + 1) mX12_farOf [.ref 80] ρ ρ S Q := by
  refine eX12_farOf hρ ?_
  have key : ∀ n k, n + k = (KK a).length → AW g ρ (QI Q) (d + 1) mX12_farOf 4 [(0, .ref 80), (1, .int (mxI (S.1 91) k)), (2, .int (nI k))] [] ρ S := by
    intro n
    induction n with
    | zero =>
      intro k hk
      refine eX12_farOf_4 hρ ?_
      rw [hG.2.2, if_pos (nI_le (by omega) (by omega)), show k = (KK a).length by omega]
      exact hq
    | succ n ih =>
      intro k hk
      refine eX12_farOf_4 hρ ?_
      rw [hG.2.2, if_neg (nI_ge (by omega) (by omega)), nI_clamp (by omega), nI_1]
      exact ⟨vp_in_nI (by omega) (by omega), ih (k + 1) (by omega)⟩
  exact key (KK a).length 0 (by omega)
theorem sM_far {Q : Int32 → St → Prop} (hρ : Ok ρ) (hF : ∀ k ∈ ([80, 85, 86, 87, 89, 90, 91, 92] : List Nat), gF g k) (hW : WF a) (hI : IM a S) (hq : ∀ v S', RfN a (farC a) v → IM a S' → Q v S') : CALLi g (d + 23) mX12_far [.ref 80] ρ ρ S Q := by
  refine eX12_far hρ (sM_whyNotNow hρ hF hW hI (fun z S' i' => ?_) (fun z1 z2 S' i' => ?_) (fun z1 z2 S' g' k1 => ?_))
  · rw [if_neg (by decide)]
    exact hq _ S' (Or.inl ⟨z, rfl⟩) i'
  · rw [if_neg (by decide)]
    exact hq _ S' (Or.inr (Or.inl ⟨z1, z2, rfl⟩)) i'
  · rw [if_pos (by decide)]
    exact sM_farOf (d := d + 21) hρ g' z2 (hq _ S' (Or.inr (Or.inr ⟨z1, z2, _, k1, rfl⟩)) g'.1)
theorem sM_farthest {Q : Int32 → St → Prop} (hρ : Ok ρ) (hF : ∀ k ∈ ([80, 85, 86, 87, 89, 90, 91, 92] : List Nat), gF g k) (hW : WF a) (hI : IM a S) (hq : ∀ v S', RfN a (fthC a) v → IM a S' → Q v S') : CALLi g (d + 23) mX12_farthest [.ref 80] ρ ρ S Q := by
  refine eX12_farthest hρ (sM_whyNotNow hρ hF hW hI (fun z S' i' => ?_) (fun z1 z2 S' i' => ?_) (fun z1 z2 S' g' k1 => ?_))
  · rw [if_neg (by decide)]
    exact hq _ S' (Or.inl ⟨z, rfl⟩) i'
  · rw [if_neg (by decide)]
    exact hq _ S' (Or.inr (Or.inl ⟨z1, z2, rfl⟩)) i'
  · rw [if_pos (by decide)]
    have r1 := (KK_cel hW z1).1
    obtain ⟨t, t1, t2⟩ : ∃ t, t < (KK a).length ∧ S'.1 91 t = mxI (S'.1 91) (KK a).length := by
      rcases mxI_ex (S'.1 91) (KK a).length with z | z
      · exact ⟨rkN a, r1, by rw [z]; exact k1.self r1⟩
      · exact z
    obtain ⟨M, eM⟩ : ∃ M, M = mxI (S'.1 91) (KK a).length := ⟨_, rfl⟩
    rw [← eM] at t2
    have fo : ∀ {Q' : Int32 → St → Prop} {d' : Nat}, Q' M S' → CALLi g (d' + 1) mX12_farOf [.ref 80] ρ ρ S' Q' := fun hh => sM_farOf hρ g' z2 (by rw [← eM]; exact hh)
    have key : ∀ n k, n + k = t → (∀ j, j < k → S'.1 91 j ≠ M) → AW g ρ (QI Q) (d + 22 + 1) mX12_farthest 13 [(0, .ref 80), (2, .int (nI k))] [] ρ S' := by
      intro n
      induction n with
      | zero =>
        intro k hk hj
        have e : k = t := by omega
        refine eX12_farthest_13 hρ ⟨vp_in_nI (by omega) (by omega), fo (d' := d + 21) ?_⟩
        rw [nI_clamp (by omega), e, if_pos t2]
        exact hq _ S' (Or.inr (Or.inr ⟨z1, z2, _, t, k1, t1, by rw [← eM]; exact t2, fun j h => by rw [← eM]; exact hj j (by omega), rfl⟩)) g'.1
      | succ n ih =>
        intro k hk hj
        refine eX12_farthest_13 hρ ⟨vp_in_nI (by omega) (by omega), fo (d' := d + 21) ?_⟩
        rw [nI_clamp (by omega), nI_1]
        by_cases c : S'.1 91 k = M
        · rw [if_pos c]
          exact hq _ S' (Or.inr (Or.inr ⟨z1, z2, _, k, k1, by omega, by rw [← eM]; exact c, fun j h => by rw [← eM]; exact hj j h, rfl⟩)) g'.1
        · rw [if_neg c]
          refine ih (k + 1) (by omega) (fun j h => ?_)
          by_cases e : j = k
          · rw [e]; exact c
          · exact hj j (by omega)
    exact key t 0 (by omega) (fun j h => absurd h (by omega))
/-- what within answers -/
def witR (a : AS) (x : Int32) (v : Int32) : Prop := (¬ vp_in x 41 ∧ v = -2) ∨ (vp_in x 41 ∧ RfN a (witC a x) v)
theorem sM_within {Q : Int32 → St → Prop} {x : Int32} (hρ : Ok ρ) (hF : ∀ k ∈ ([80, 85, 86, 87, 89, 90, 91, 92] : List Nat), gF g k) (hW : WF a) (hI : IM a S) (hq : ∀ v S', witR a x v → IM a S' → Q v S') : CALLi g (d + 23) mX12_within [.ref 80, .int x] ρ ρ S Q := by
  refine eX12_within hρ (sM_in hρ ?_)
  by_cases c : vp_in x 41
  rotate_left
  · rw [if_neg (fun z => c (in40.mp z)), if_pos rfl]
    exact hq _ S (Or.inl ⟨c, rfl⟩) hI
  rw [if_pos (in40.mpr c), if_neg (by decide)]
  refine sM_whyNotNow hρ hF hW hI (fun z S' i' => ?_) (fun z1 z2 S' i' => ?_) (fun z1 z2 S' g' k1 => ?_)
  · rw [if_neg (by decide)]
    exact hq _ S' (Or.inr ⟨c, Or.inl ⟨z, rfl⟩⟩) i'
  · rw [if_neg (by decide)]
    exact hq _ S' (Or.inr ⟨c, Or.inr (Or.inl ⟨z1, z2, rfl⟩)⟩) i'
  · rw [if_pos (by decide)]
    have key : ∀ n k, n + k = (KK a).length → AW g ρ (QI Q) (d + 22 + 1) mX12_within 31 [(0, .ref 80), (1, .int x), (3, .int (nI (wcn (S'.1 91) x k))), (4, .int (nI k))] [] ρ S' := by
      intro n
      induction n with
      | zero =>
        intro k hk
        refine eX12_within_31 hρ ?_
        rw [g'.2.2, if_pos (nI_le (by omega) (by omega)), show k = (KK a).length by omega]
        exact hq _ S' (Or.inr ⟨c, Or.inr (Or.inr ⟨z1, z2, _, k1, rfl⟩)⟩) g'.1
      | succ n ih =>
        intro k hk
        refine eX12_within_31 hρ ?_
        rw [g'.2.2, if_neg (nI_ge (by omega) (by omega)), nI_clamp (by omega), nI_1]
        refine ⟨vp_in_nI (by omega) (by omega), sM_in hρ ?_⟩
        have ew : ((0 : Int64) ≤ (S'.1 91 k).toInt64 ∧ (S'.1 91 k).toInt64 ≤ x.toInt64) ↔ (0 ≤ S'.1 91 k ∧ S'.1 91 k ≤ x) := by
          rw [fa_wide_le, show (0 : Int64) = (0 : Int32).toInt64 from rfl, fa_wide_le]
        have hi := ih (k + 1) (by omega)
        have es : wcn (S'.1 91) x (k + 1) = wcn (S'.1 91) x k + if 0 ≤ S'.1 91 k ∧ S'.1 91 k ≤ x then 1 else 0 := rfl
        rw [es] at hi
        by_cases c2 : 0 ≤ S'.1 91 k ∧ S'.1 91 k ≤ x
        · rw [if_pos c2] at hi
          rw [if_pos (ew.mpr c2), if_neg (by decide), nI_1]
          exact hi
        · rw [if_neg c2] at hi
          rw [if_neg (fun z => c2 (ew.mp z)), if_pos rfl, Int32.add_zero]
          exact hi
    exact key (KK a).length 0 (by omega)
end MY
