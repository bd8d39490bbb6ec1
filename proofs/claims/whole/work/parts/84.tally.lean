-- 3: tallies; 6: the list
/-- in how many of a list the cell k has v -/
def cnV (C k v : Nat) (L : List Nat) : Nat := (L.filter (fun p => decide (flt C (unp p) k = v))).length
theorem cnV_app (C k v : Nat) (L : List Nat) (p : Nat) : cnV C k v (L ++ [p]) = cnV C k v L + if flt C (unp p) k = v then 1 else 0 := by
  unfold cnV
  rw [List.filter_append, List.length_append]
  congr 1
  by_cases c : flt C (unp p) k = v
  · rw [if_pos c]; simp [c]
  · rw [if_neg c]; simp [c]
section TL
variable {g : GX} {d : Nat} {ρ : Rs} {S : St} {a : AS}
theorem sM_tallies {Q : St → Prop} (hρ : Ok ρ) (hF : ∀ k ∈ ([88] : List Nat), gF g k) (hW : WF a) (hI : IM a S) {p : Nat} (hi : ∀ y x, y < nR a → x < nC a → S.1 85 (y * nC a + x) = nI (unp p y x)) {c : Nat → Nat → Nat} (hc : ∀ k v, k < nR a * nC a → v ≤ 20 → S.2 88 (21 * k + v) = lN (c k v)) (h : ∀ S', S'.1 = S.1 → (∀ k, k ≠ 88 → S'.2 k = S.2 k) → (∀ k v, k < nR a * nC a → v ≤ 20 → S'.2 88 (21 * k + v) = lN (c k v + if flt (nC a) (unp p) k = v then 1 else 0)) → Q S') : CALLv g (d + 1) mX12_tallies [.ref 80] ρ ρ S Q := by
  have hl := hW.le
  have e2 := mul44 hl.1 hl.2.1
  refine eX12_tallies hρ ?_
  have key : ∀ n k S1, k + n = nR a * nC a → S1.1 = S.1 → (∀ k, k ≠ 88 → S1.2 k = S.2 k) → (∀ j v, j < nR a * nC a → v ≤ 20 → S1.2 88 (21 * j + v) = lN (c j v + if j < k ∧ flt (nC a) (unp p) j = v then 1 else 0)) → AW g ρ (QV Q) (d + 1) mX12_tallies 2 [(0, .ref 80), (1, .int (nI k))] [] ρ S1 := by
    intro n
    induction n with
    | zero =>
      intro k S1 hk j1 j2 j3
      have hI1 : IM a S1 := hI.of (by rw [j1]) (by rw [j1]) (by rw [j1]) (by rw [j1]) (by rw [j1]) (by rw [j1])
      refine eX12_tallies_2 hρ hF (sM_many hρ hI1 ?_)
      rw [if_pos (nI_le (by omega) (by omega))]
      refine h S1 j1 j2 (fun j v hj hv => ?_)
      rw [j3 j v hj hv]
      congr 2
      by_cases q : flt (nC a) (unp p) j = v
      · rw [if_pos q, if_pos ⟨by omega, q⟩]
      · rw [if_neg q, if_neg (fun z => q z.2)]
    | succ n ih =>
      intro k S1 hk j1 j2 j3
      have hI1 : IM a S1 := hI.of (by rw [j1]) (by rw [j1]) (by rw [j1]) (by rw [j1]) (by rw [j1]) (by rw [j1])
      refine eX12_tallies_2 hρ hF (sM_many hρ hI1 ?_)
      have b1 : flt (nC a) (unp p) k < 16 := unp_lt _ _ _
      have e3 : (21 : Int32) * nI k + nI (flt (nC a) (unp p) k) = nI (21 * k + flt (nC a) (unp p) k) := by
        show nI 21 * nI k + _ = _
        rw [pk_mul, nI_add]
      rw [if_neg (nI_ge (by omega) (by omega)), nI_clamp (show k < 2 ^ 31 by omega), j1, flt_unp hi (show k < nR a * nC a by omega), e3, nI_clamp (by omega), nI_1, j3 k _ (by omega) (by omega), if_neg (by omega), Nat.add_zero, lN_1]
      refine ⟨vp_in_nI (by omega) (by omega), vp_in_nI (by omega) (by omega), vp_in_nI (by omega) (by omega), ?_⟩
      refine ih (k + 1) _ (by omega) (by rw [setL_I]; exact j1) (fun j hj => by rw [setL_ne _ _ _ hj]; exact j2 j hj) (fun j v hj hv => ?_)
      rw [setL_at]
      by_cases q : j = k ∧ flt (nC a) (unp p) k = v
      · obtain ⟨rfl, q2⟩ := q
        rw [if_pos ⟨rfl, by rw [q2]⟩, if_pos ⟨by omega, q2⟩, q2]
      · rw [if_neg (by omega), j3 j v hj hv]
        congr 2
        by_cases q3 : j < k ∧ flt (nC a) (unp p) j = v
        · rw [if_pos q3, if_pos ⟨by omega, q3.2⟩]
        · rw [if_neg q3]
          by_cases q4 : j = k
          · subst q4
            rw [if_neg (fun z => q ⟨rfl, z.2⟩)]
          · rw [if_neg (fun z => q3 ⟨by omega, z.2⟩)]
  exact key (nR a * nC a) 0 S (by omega) rfl (fun _ _ => rfl) (fun j v hj hv => by rw [hc j v hj hv, if_neg (by omega), Nat.add_zero])
def P3f (a : AS) (L : List Nat) (S : St) : Prop := S.1 80 14 = 0 ∧ ∀ k v, k < nR a * nC a → v ≤ 20 → S.2 88 (21 * k + v) = lN (cnV (nC a) k v L)
theorem sM_talliesAll {Q : St → Prop} (hρ : Ok ρ) (hF : ∀ k ∈ ([80, 85, 86, 87, 88] : List Nat), gF g k) (hW : WF a) (hR : nR a ≠ 0) (hI : IM a S) (h : ∀ S', IM a S' → S'.2 80 15 = lN (KK a).length → (∀ k v, k < nR a * nC a → v ≤ 20 → S'.2 88 (21 * k + v) = lN (cnV (nC a) k v (KK a))) → Q S') : CALLv g (d + 21) mX12_talliesAll [.ref 80] ρ ρ S Q := by
  have hl := hW.le
  have e2 := mul44 hl.1 hl.2.1
  have hF8 : ∀ k ∈ ([88] : List Nat), gF g k := fun k hk => hF k (by simp at hk; simp [hk])
  have hF4 : ∀ k ∈ ([80, 85, 86, 87] : List Nat), gF g k := fun k hk => hF k (by simp at hk; rcases hk with h | h | h | h <;> simp [h])
  refine eX12_talliesAll hρ ?_
  have key : ∀ n k S1, k + n = 336 → IM a S1 → (∀ j, j < k → S1.2 88 j = 0) → AW g ρ (QV Q) (d + 20 + 1) mX12_talliesAll 2 [(0, .ref 80), (1, .int (nI k))] [] ρ S1 := by
    intro n
    induction n with
    | zero =>
      intro k S1 hk hI1 hz
      refine eX12_talliesAll_2 hρ hF8 ?_
      rw [if_pos (show (336 : Int32) ≤ nI k from nI_le (a := 336) (by omega) (by omega))]
      refine sM_goesAll (D := d + 2) (x1 := nI 3) (J := JT a 3 (P3f a)) hρ hF4 hW hR (fun e => ?_) (JT.z hI1 ?_) (fun S' M k1 k2 k3 => ?_)
      · refine JT.c (fun L S S' h f => ?_) (fun L S S' h ho f => ?_) (fun L p S Q hI2 h13 h15 hP ho hi hp hQ => ?_)
        · have e1 := f 80 (by omega)
          have e2 := (f 88 (by omega)).2
          unfold P3f
          rw [e1.1, e2]
          exact h
        · have e1 := f 80 (by omega)
          have e2 := (f 88 (by omega)).2
          unfold P3f
          rw [e1.1, e2]
          exact h
        · rw [show d + 2 + e = (d + e + 1) + 1 by omega]
          refine eX12_visits hρ (fun k hk => hF k (by simp at hk; simp [hk])) ?_
          rw [h13, if_neg (by decide), if_neg (by decide), if_pos (show nI 3 = (3 : Int32) from rfl)]
          refine sM_tallies hρ hF8 hW hI2 hi hP.2 (fun S' q1 q2 q3 => ?_)
          refine hQ S' (hI2.of (by rw [q1]) (by rw [q1]) (by rw [q1]) (by rw [q1]) (by rw [q1]) (by rw [q1])) (by rw [q1]; exact h13) (by rw [q2 80 (by decide)]; exact h15) ⟨?_, fun k v hk hv => ?_⟩ (by rw [q1]) (by rw [q1]) (by rw [q1])
          · rw [setL_I, q1]; exact ho
          · rw [setL_ne _ _ _ (by decide), q3 k v hk hv, cnV_app]
      · refine ⟨?_, fun k v hk hv => ?_⟩
        · rw [setL_I, setL_I, setI_at, if_pos ⟨rfl, rfl⟩]
        · rw [setL_ne _ _ _ (by decide), setL_ne _ _ _ (by decide), setI_L, setI_L, hz _ (by omega)]
          rfl
      · rw [k3 k2.2.2.2.1] at k2
        exact h S' k2.1 k2.2.2.1 k2.2.2.2.2
    | succ n ih =>
      intro k S1 hk hI1 hz
      refine eX12_talliesAll_2 hρ hF8 ?_
      rw [if_neg (show ¬ (336 : Int32) ≤ nI k from nI_ge (b := 336) (by omega) (by omega)), nI_clamp (by omega), nI_1]
      refine ⟨vp_in_nI (by omega) (by omega), ih (k + 1) _ (by omega) (hI1.lng _ _ _) (fun j hj => ?_)⟩
      rw [setL_at]
      by_cases c : j = k
      · rw [if_pos ⟨rfl, c⟩]
      · rw [if_neg (fun z => c z.2)]
        exact hz j (by omega)
  exact key 336 0 S (by omega) hI (fun j hj => absurd hj (by omega))
-- 6
theorem getD_l {L M : List Nat} {i : Nat} (h : i < L.length) : (L ++ M).getD i 0 = L.getD i 0 := by
  rw [List.getD_eq_getElem?_getD, List.getD_eq_getElem?_getD, List.getElem?_append_left h]
theorem getD_e {L : List Nat} {p : Nat} : (L ++ [p]).getD L.length 0 = p := by
  rw [List.getD_eq_getElem?_getD, List.getElem?_append_right (Nat.le_refl _), Nat.sub_self]
  rfl
theorem sM_lists {Q : St → Prop} (hρ : Ok ρ) (hF : ∀ k ∈ ([80, 89] : List Nat), gF g k) (hW : WF a) (hI : IM a S) {p n : Nat} (hi : ∀ y x, y < nR a → x < nC a → S.1 85 (y * nC a + x) = nI (unp p y x)) (hn : n ≤ 1000) (h15 : S.2 80 15 = lN n) (h1 : n = 1000 → Q (setI S 80 14 1)) (h0 : n < 1000 → ∀ S', S'.2 = S.2 → (∀ k, k ≠ 89 → S'.1 k = S.1 k) → (∀ j, j < 16 * n → S'.1 89 j = S.1 89 j) → (∀ k, k < nR a * nC a → S'.1 89 (16 * n + k) = nI (flt (nC a) (unp p) k)) → Q S') : CALLv g (d + 1) mX12_lists [.ref 80] ρ ρ S Q := by
  have hl := hW.le
  have e2 := mul44 hl.1 hl.2.1
  refine eX12_lists hρ (fun k hk => hF k (by simp at hk; simp [hk])) ?_
  rw [h15]
  by_cases c : n = 1000
  · rw [if_pos (show lN n = 1000 by rw [c]; rfl)]
    exact h1 c
  · rw [if_neg (show ¬ lN n = (1000 : Int64) from fun z => c ((lNeq (n := 1000) (by omega) (by omega)).mp z))]
    have key : ∀ m k S1, k + m = nR a * nC a → S1.2 = S.2 → (∀ k, k ≠ 89 → S1.1 k = S.1 k) → (∀ j, j < 16 * n → S1.1 89 j = S.1 89 j) → (∀ j, j < k → S1.1 89 (16 * n + j) = nI (flt (nC a) (unp p) j)) → AW g ρ (QV Q) (d + 1) mX12_lists 19 [(0, .ref 80), (1, .int (nI k))] [] ρ S1 := by
      intro m
      induction m with
      | zero =>
        intro k S1 hk j1 j2 j3 j4
        have hI1 : IM a S1 := hI.of (by rw [j2 80 (by decide)]) (by rw [j2 80 (by decide)]) (by rw [j2 80 (by decide)]) (j2 81 (by decide)) (j2 83 (by decide)) (j2 84 (by decide))
        refine eX12_lists_19 hρ (fun k hk => hF k (by simp at hk; simp [hk])) (sM_many hρ hI1 ?_)
        rw [if_pos (nI_le (by omega) (by omega))]
        exact h0 (by omega) S1 j1 j2 j3 (fun k hk2 => j4 k (by omega))
      | succ m ih =>
        intro k S1 hk j1 j2 j3 j4
        have hI1 : IM a S1 := hI.of (by rw [j2 80 (by decide)]) (by rw [j2 80 (by decide)]) (by rw [j2 80 (by decide)]) (j2 81 (by decide)) (j2 83 (by decide)) (j2 84 (by decide))
        refine eX12_lists_19 hρ (fun k hk => hF k (by simp at hk; simp [hk])) (sM_many hρ hI1 ?_)
        have e3 : (16 : Int32) * nI n + nI k = nI (16 * n + k) := by
          show nI 16 * nI n + _ = _
          rw [pk_mul, nI_add]
        rw [if_neg (nI_ge (by omega) (by omega)), j1, h15, lN_i, e3, nI_clamp (show k < 2 ^ 31 by omega), nI_clamp (show 16 * n + k < 2 ^ 31 by omega), j2 85 (by decide), flt_unp hi (show k < nR a * nC a by omega), nI_1]
        refine ⟨vp_in_nI (by omega) (by omega), vp_in_nI (by omega) (by omega), ?_⟩
        refine ih (k + 1) _ (by omega) (by rw [setI_L]; exact j1) (fun j hj => by rw [setI_ne _ _ _ hj]; exact j2 j hj) (fun j hj => ?_) (fun j hj => ?_)
        · rw [setI_at, if_neg (by omega)]
          exact j3 j hj
        · rw [setI_at]
          by_cases q : j = k
          · rw [if_pos ⟨rfl, by omega⟩, q]
          · rw [if_neg (by omega)]
            exact j4 j (by omega)
    exact key (nR a * nC a) 0 S (by omega) rfl (fun _ _ => rfl) (fun _ _ => rfl) (fun j hj => absurd hj (by omega))
/-- the tables stand in the store, cell by cell -/
def LstM (a : AS) (L : List Nat) (S : St) : Prop := ∀ i, i < L.length → ∀ k, k < nR a * nC a → S.1 89 (16 * i + k) = nI (flt (nC a) (unp (L.getD i 0)) k)
def P6f (a : AS) (L : List Nat) (S : St) : Prop := (S.1 80 14 = 0 ∧ L.length ≤ 1000 ∧ LstM a L S) ∨ (S.1 80 14 = 1 ∧ 1000 < L.length)
theorem sM_listsAll {Q : Int32 → St → Prop} (hρ : Ok ρ) (hF : ∀ k ∈ ([80, 85, 86, 87, 89] : List Nat), gF g k) (hW : WF a) (hR : nR a ≠ 0) (hI : IM a S) (h1 : (KK a).length ≤ 1000 → ∀ S', IM a S' → S'.1 80 32 = nI (KK a).length → LstM a (KK a) S' → Q 1 S') (h0 : 1000 < (KK a).length → ∀ S', IM a S' → Q 0 S') : CALLi g (d + 21) mX12_listsAll [.ref 80] ρ ρ S Q := by
  have hl := hW.le
  have e2 := mul44 hl.1 hl.2.1
  have hF4 : ∀ k ∈ ([80, 85, 86, 87] : List Nat), gF g k := fun k hk => hF k (by simp at hk; rcases hk with h | h | h | h <;> simp [h])
  refine eX12_listsAll hρ (fun k hk => hF k (by simp at hk; simp [hk])) ?_
  refine sM_goesAll (D := d + 2) (x1 := nI 6) (J := JT a 6 (P6f a)) hρ hF4 hW hR (fun e => ?_) (JT.z hI ?_) (fun S' M k1 k2 k3 => ?_)
  · have st : ∀ L S S', P6f a L S → S'.1 80 = S.1 80 → S'.1 89 = S.1 89 → P6f a L S' := by
      intro L S S' h e1 e2
      unfold P6f LstM
      rw [e1, e2]
      exact h
    refine JT.c (fun L S S' h f => st L S S' h (f 80 (by omega)).1 (f 89 (by omega)).1) (fun L S S' h ho f => st L S S' h (f 80 (by omega)).1 (f 89 (by omega)).1) (fun L p S Q hI2 h13 h15 hP ho hi hp hQ => ?_)
    rw [show d + 2 + e = (d + e + 1) + 1 by omega]
    have hP2 : L.length ≤ 1000 ∧ LstM a L S := by
      rcases hP with q | q
      · exact q.2
      · have := q.1
        rw [ho] at this; exact absurd this (by decide)
    refine eX12_visits hρ (fun k hk => hF k (by simp at hk; simp [hk])) ?_
    rw [h13, if_neg (by decide), if_neg (by decide), if_neg (by decide), if_neg (by decide), if_neg (by decide), if_pos (show nI 6 = (6 : Int32) from rfl)]
    refine sM_lists hρ (fun k hk => hF k (by simp at hk; rcases hk with h | h <;> simp [h])) hW hI2 hi hP2.1 h15 (fun en => ?_) (fun en S' q1 q2 q3 q4 => ?_)
    · refine hQ _ (hI2.fld _ (by omega)) ?_ ?_ (Or.inr ⟨?_, ?_⟩) ?_ ?_ ?_
      · rw [setI_at, if_neg (by omega)]; exact h13
      · rw [setI_L]; exact h15
      · rw [setL_I, setI_at, if_pos ⟨rfl, rfl⟩]
      · rw [List.length_append]
        show 1000 < L.length + 1
        omega
      · rw [setI_ne _ _ _ (by decide)]
      · rw [setI_ne _ _ _ (by decide)]
      · rw [setI_ne _ _ _ (by decide)]
    · refine hQ S' (hI2.of (by rw [q2 80 (by decide)]) (by rw [q2 80 (by decide)]) (by rw [q2 80 (by decide)]) (q2 81 (by decide)) (q2 83 (by decide)) (q2 84 (by decide))) (by rw [q2 80 (by decide)]; exact h13) (by rw [q1]; exact h15) (Or.inl ⟨?_, ?_, fun i hi2 k hk => ?_⟩) (q2 85 (by decide)) (q2 86 (by decide)) (q2 87 (by decide))
      · rw [setL_I, q2 80 (by decide)]; exact ho
      · rw [List.length_append]
        show L.length + 1 ≤ 1000
        omega
      · rw [List.length_append] at hi2
        have hi3 : i < L.length + 1 := hi2
        rw [setL_I]
        by_cases c : i = L.length
        · rw [c, getD_e]
          exact q4 k hk
        · rw [getD_l (by omega), q3 _ (by omega)]
          exact hP2.2 i (by omega) k hk
  · refine Or.inl ⟨?_, Nat.zero_le _, fun i hi => absurd hi (by simp)⟩
    rw [setL_I, setL_I, setI_at, if_pos ⟨rfl, rfl⟩]
  · rcases k2.2.2.2 with ⟨q1, q2, q3⟩ | ⟨q1, q2⟩
    · rw [if_pos q1]
      have eM := k3 q1
      rw [eM] at q2 q3 k2
      refine h1 q2 _ (k2.1.fld _ (by omega)) ?_ ?_
      · rw [setI_at, if_pos ⟨rfl, rfl⟩, k2.2.2.1, lN_i]
      · intro i hi k hk
        rw [setI_ne _ _ _ (by decide)]
        exact q3 i hi k hk
    · rw [if_neg (by rw [q1]; decide)]
      refine h0 ?_ _ (k2.1.fld _ (by omega))
      have := k1.length_le
      omega
end TL
