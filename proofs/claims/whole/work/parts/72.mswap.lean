-- A SWAP, by the model
theorem nI_dn {a : Nat} (h : 1 ≤ a) : nI a + ((0 : Int32) - 1) = nI (a - 1) := by
  have e : nI a = nI (a - 1) + 1 := by rw [nI_1]; congr 1; omega
  rw [e, Int32.add_assoc, show (1 : Int32) + (0 - 1) = 0 from rfl, Int32.add_zero]
theorem bit2 {i j k : Nat} : (2 ^ i ||| 2 ^ j).testBit k = (decide (i = k) || decide (j = k)) := by
  rw [Nat.testBit_or, Nat.testBit_two_pow, Nat.testBit_two_pow]
theorem or2_lt {i j : Nat} (hi : i < 16) (hj : j < 16) : 2 ^ i ||| 2 ^ j < 65536 := Nat.or_lt_two_pow (n := 16) (Nat.pow_lt_pow_right (by decide) hi) (Nat.pow_lt_pow_right (by decide) hj)
section MS
variable {g : GX} {d : Nat} {ρ : Rs} {S : St} {a : AS}
theorem sM_two {Q : Int32 → St → Prop} (hρ : Ok ρ) (hW : WF a) (hI : IM a S) {y1 x1 y2 x2 : Nat} (h1 : y1 < nR a) (h2 : x1 < nC a) (h3 : y2 < nR a) (h4 : x2 < nC a) (h : Q (nI (2 ^ (y1 * nC a + x1) ||| 2 ^ (y2 * nC a + x2))) S) : CALLi g (d + 1) mX12_two [.ref 80, .int (nI y1), .int (nI x1), .int (nI y2), .int (nI x2)] ρ ρ S Q := by
  have hl := hW.le
  have e1 := idx_lt h1 h2
  have e2 := idx_lt h3 h4
  have e3 := mul44 hl.1 hl.2.1
  refine eX12_two hρ (sM_place hρ hI (sM_place hρ hI ?_))
  rw [shl1 (by omega), shl1 (by omega), fa_or]
  exact h
/-- a place is in the way of a change -/
def okG (H M N : Nat) (f : Nat → Nat) (k : Nat) : Prop := ((M.testBit k = true ∨ N.testBit k = true) → H.testBit k = false) ∧ (N.testBit k = true → f k ≠ 0)
theorem sM_canGo {Q : Int32 → St → Prop} (hρ : Ok ρ) {k1 n1 b M N H m : Nat} {f : Nat → Nat} (h16 : 16 ≤ k1) (hn : k1 < rn ρ) (hs : shp ρ k1 = .inr (0, n1)) (hb : b + m ≤ n1) (hn1 : n1 < 2 ^ 31) (hm : m ≤ 16) (hM : M < 2 ^ 31) (hN : N < 2 ^ 31) (hH : H < 2 ^ 31) (hf : ∀ k, k < m → f k < 2 ^ 31) (em : ∀ {Q' : Int32 → St → Prop} {d' : Nat}, Q' (nI m) S → CALLi g d' mX12_many [.ref 80] ρ ρ S Q') (eH : S.1 81 2 = nI H) (ef : ∀ k, k < m → S.1 k1 (b + k) = nI (f k)) (hy : (∀ k, k < m → okG H M N f k) → Q 1 S) (hno : ∀ k, k < m → ¬ okG H M N f k → Q 0 S) : CALLi g (d + 1) mX12_canGo [.ref 80, .ref k1, .int (nI b), .int (nI M), .int (nI N)] ρ ρ S Q := by
  refine eX12_canGo hρ h16 hn hs ?_
  have key : ∀ n k, k + n = m → (∀ j, j < k → okG H M N f j) → AW g ρ (QI Q) (d + 1) mX12_canGo 3 [(0, .ref 80), (1, .ref k1), (2, .int (nI b)), (3, .int (nI M)), (4, .int (nI N)), (5, .int (nI k))] [] ρ S := by
    intro n
    induction n with
    | zero =>
      intro k hk hj
      refine eX12_canGo_3 hρ h16 hn hs (em ?_)
      rw [if_pos (nI_le (by omega) (by omega))]
      exact hy (fun j q => hj j (by omega))
    | succ n ih =>
      intro k hk hj
      have go : okG H M N f k → AW g ρ (QI Q) (d + 1) mX12_canGo 3 [(0, .ref 80), (1, .ref k1), (2, .int (nI b)), (3, .int (nI M)), (4, .int (nI N)), (5, .int (nI k + 1))] [] ρ S := by
        intro ok
        rw [nI_1]
        refine ih (k + 1) (by omega) (fun j q => ?_)
        by_cases c : j = k
        · rw [c]; exact ok
        · exact hj j (by omega)
      -- the hole is passed
      have at45 : ((M.testBit k = true ∨ N.testBit k = true) → H.testBit k = false) → AW g ρ (QI Q) (d + 1) mX12_canGo 45 [(0, .ref 80), (1, .ref k1), (2, .int (nI b)), (3, .int (nI M)), (4, .int (nI N)), (5, .int (nI k))] [] ρ S := by
        intro hh
        refine eX12_canGo_45 hρ h16 hn hs (sM_has hρ hN (by omega) ?_)
        cases c : N.testBit k with
        | false =>
          rw [if_pos (show (if false = true then (1 : Int32) else 0) = 0 from rfl)]
          exact go ⟨hh, fun z => by rw [c] at z; exact absurd z (by decide)⟩
        | true =>
          rw [if_pos rfl, if_neg (by decide), nI_add, nI_clamp (by omega), ef k (by omega)]
          refine ⟨vp_in_nI (by omega) hn1, ?_⟩
          have ez : nI (f k) = 0 ↔ f k = 0 := nI_eq (b := 0) (hf k (by omega)) (by omega)
          by_cases cz : f k = 0
          · rw [if_pos (ez.mpr cz)]
            exact hno k (by omega) (fun z => z.2 c cz)
          · rw [if_neg (fun z => cz (ez.mp z))]
            exact go ⟨hh, fun _ => cz⟩
      have hole : (M.testBit k = true ∨ N.testBit k = true) → CALLi g d mX12_has [.int (S.1 81 2), .int (nI k)] ρ ρ S (fun v5 S5 => if v5 = 0 then AW g ρ (QI Q) (d + 1) mX12_canGo 45 [(0, .ref 80), (1, .ref k1), (2, .int (nI b)), (3, .int (nI M)), (4, .int (nI N)), (5, .int (nI k))] [] ρ S5 else Q 0 S5) := by
        intro hmn
        rw [eH]
        refine sM_has hρ hH (by omega) ?_
        cases c : H.testBit k with
        | false =>
          rw [if_pos (show (if false = true then (1 : Int32) else 0) = 0 from rfl)]
          exact at45 (fun _ => c)
        | true =>
          rw [if_pos rfl, if_neg (by decide)]
          exact hno k (by omega) (fun z => by have := z.1 hmn; rw [c] at this; exact absurd this (by decide))
      refine eX12_canGo_3 hρ h16 hn hs (em ?_)
      rw [if_neg (nI_ge (by omega) (by omega))]
      refine sM_has hρ hM (by omega) ?_
      cases c : M.testBit k with
      | true =>
        rw [if_pos rfl, if_neg (by decide)]
        exact hole (Or.inl c)
      | false =>
        rw [if_pos (show (if false = true then (1 : Int32) else 0) = 0 from rfl)]
        refine sM_has hρ hN (by omega) ?_
        cases c2 : N.testBit k with
        | true =>
          rw [if_pos rfl, if_neg (by decide)]
          exact hole (Or.inr c2)
        | false =>
          rw [if_pos (show (if false = true then (1 : Int32) else 0) = 0 from rfl)]
          exact at45 (fun z => by rw [c, c2] at z; simp at z)
  exact key m 0 (by omega) (fun j hj => by omega)
/-- what a place holds behind a change -/
def chG (M N : Nat) (f : Nat → Nat) (k : Nat) : Nat := if M.testBit k then (if N.testBit k then f k else f k + 1) else if N.testBit k then f k - 1 else f k
theorem sM_changes {Q : St → Prop} (hρ : Ok ρ) {k1 n1 b M N R C : Nat} {f : Nat → Nat} (h16 : 16 ≤ k1) (hn : k1 < rn ρ) (hs : shp ρ k1 = .inr (0, n1)) (hF : gF g k1) (hb : b + R * C ≤ n1) (hn1 : n1 < 2 ^ 31) (hm : R * C ≤ 16) (hb2 : k1 = 81 → 2 ≤ b) (hM : M < 2 ^ 31) (hN : N < 2 ^ 31) (eR : S.1 81 0 = nI R) (eC : S.1 81 1 = nI C) (hpos : ∀ k, k < R * C → N.testBit k = true → 1 ≤ f k) (ef : ∀ k, k < R * C → S.1 k1 (b + k) = nI (f k)) (h : ∀ S', (∀ j, S'.1 k1 j = if b ≤ j ∧ j < b + R * C then nI (chG M N f (j - b)) else S.1 k1 j) → Fr (fun k => k = k1) S S' → Q S') : CALLv g (d + 1) mX12_changes [.ref 80, .ref k1, .int (nI b), .int (nI M), .int (nI N)] ρ ρ S Q := by
  refine eX12_changes hρ h16 hn hs ?_
  have key : ∀ n k S1, k + n = R * C → (∀ j, S1.1 k1 j = if b ≤ j ∧ j < b + k then nI (chG M N f (j - b)) else S.1 k1 j) → Fr (fun k => k = k1) S S1 → AW g ρ (QV Q) (d + 1) mX12_changes 3 [(0, .ref 80), (1, .ref k1), (2, .int (nI b)), (3, .int (nI M)), (4, .int (nI N)), (5, .int (nI k))] [] ρ S1 := by
    intro n
    induction n with
    | zero =>
      intro k S1 hk e1 f1
      have hk : k = R * C := hk
      have q0 : S1.1 81 0 = nI R := by
        by_cases c : k1 = 81
        · have := hb2 c
          subst c
          rw [e1 0, if_neg (by omega)]; exact eR
        · rw [(f1 81 (Ne.symm c)).1]; exact eR
      have q1 : S1.1 81 1 = nI C := by
        by_cases c : k1 = 81
        · have := hb2 c
          subst c
          rw [e1 1, if_neg (by omega)]; exact eC
        · rw [(f1 81 (Ne.symm c)).1]; exact eC
      refine eX12_changes_3 hρ h16 hn hs (eX12_many hρ ?_)
      rw [q0, q1, pk_mul, if_pos (nI_le (by omega) (by omega))]
      refine h S1 (fun j => ?_) f1
      rw [e1 j, hk]
    | succ n ih =>
      intro k S1 hk e1 f1
      have q0 : S1.1 81 0 = nI R := by
        by_cases c : k1 = 81
        · have := hb2 c
          subst c
          rw [e1 0, if_neg (by omega)]; exact eR
        · rw [(f1 81 (Ne.symm c)).1]; exact eR
      have q1 : S1.1 81 1 = nI C := by
        by_cases c : k1 = 81
        · have := hb2 c
          subst c
          rw [e1 1, if_neg (by omega)]; exact eC
        · rw [(f1 81 (Ne.symm c)).1]; exact eC
      have ek : S1.1 k1 (b + k) = nI (f k) := by
        rw [e1 (b + k), if_neg (by omega)]; exact ef k (by omega)
      have nx : ∀ v, v = nI (chG M N f k) → AW g ρ (QV Q) (d + 1) mX12_changes 3 [(0, .ref 80), (1, .ref k1), (2, .int (nI b)), (3, .int (nI M)), (4, .int (nI N)), (5, .int (nI k + 1))] [] ρ (setI S1 k1 (b + k) v) := by
        intro v hv
        rw [nI_1]
        refine ih (k + 1) _ (by omega) (fun j => ?_) (f1.tr (Fr.setI (F := fun x => x = k1) _ _ _ rfl))
        rw [setI_at]
        by_cases c : j = b + k
        · rw [if_pos ⟨rfl, c⟩, if_pos (by omega), hv, show j - b = k by omega]
        · rw [if_neg (fun z => c z.2), e1 j]
          by_cases c2 : b ≤ j ∧ j < b + k
          · rw [if_pos c2, if_pos (by omega)]
          · rw [if_neg c2, if_neg (by omega)]
      refine eX12_changes_3 hρ h16 hn hs (eX12_many hρ ?_)
      rw [q0, q1, pk_mul, if_neg (nI_ge (by omega) (by omega)), nI_add, nI_clamp (by omega), ek]
      refine ⟨vp_in_nI (by omega) hn1, sM_has hρ hM (by omega) ?_⟩
      cases c : M.testBit k with
      | true =>
        rw [if_pos rfl, if_neg (by decide)]
        refine eX12_changes_33 hρ h16 hn hs hF (sM_has hρ hN (by omega) ?_)
        cases c2 : N.testBit k with
        | true =>
          rw [if_pos rfl, if_neg (by decide), nI_clamp (by omega)]
          refine ⟨vp_in_nI (by omega) hn1, nx _ ?_⟩
          unfold chG
          rw [c, c2, if_pos rfl, if_pos rfl, show (1 : Int32) - 1 = 0 from rfl, Int32.add_zero]
        | false =>
          rw [if_pos (show (if false = true then (1 : Int32) else 0) = 0 from rfl), nI_clamp (by omega)]
          refine ⟨vp_in_nI (by omega) hn1, nx _ ?_⟩
          unfold chG
          rw [c, c2, if_pos rfl, if_neg (by decide), show (1 : Int32) - 0 = 1 from rfl, nI_1]
      | false =>
        rw [if_pos (show (if false = true then (1 : Int32) else 0) = 0 from rfl)]
        refine eX12_changes_33 hρ h16 hn hs hF (sM_has hρ hN (by omega) ?_)
        cases c2 : N.testBit k with
        | true =>
          rw [if_pos rfl, if_neg (by decide), nI_clamp (by omega)]
          refine ⟨vp_in_nI (by omega) hn1, nx _ ?_⟩
          unfold chG
          rw [c, c2, if_neg (by decide), if_pos rfl, nI_dn (hpos k (by omega) c2)]
        | false =>
          rw [if_pos (show (if false = true then (1 : Int32) else 0) = 0 from rfl), nI_clamp (by omega)]
          refine ⟨vp_in_nI (by omega) hn1, nx _ ?_⟩
          unfold chG
          rw [c, c2, if_neg (by decide), if_neg (by decide), show (0 : Int32) - 0 = 0 from rfl, Int32.add_zero]
  refine key (R * C) 0 S (by omega) (fun j => ?_) (Fr.rf S)
  rw [if_neg (by omega)]
end MS
