-- ACTS: kept, and gone back to
def keepA (a : AS) : AS := (a.1, a.2.1, a.2.2.1, cel a, nA a + 1, fun i => if i = nA a then cel a else pst a i)
def backA (a : AS) (k : Nat) : AS := (a.1, a.2.1, a.2.2.1, pst a k, k, pst a)
theorem Sam.sy {t u : Nat → Nat → Nat} (h : Sam t u) : Sam u t := ⟨fun y => (h.1 y).symm, fun x => (h.2 x).symm⟩
theorem Sam.tr {t u v : Nat → Nat → Nat} (h : Sam t u) (h2 : Sam u v) : Sam t v := ⟨fun y => (h2.1 y).trans (h.1 y), fun x => (h2.2 x).trans (h.2 x)⟩
theorem Sam.ts {t u : Nat → Nat → Nat} (h : Sam t u) : tsum u = tsum t := by
  unfold tsum s4
  rw [h.1 0, h.1 1, h.1 2, h.1 3]
theorem WF.told {a : AS} (h : WF a) (q : nR a ≠ 0) : Told a := by
  rcases h.2.2.2 with z | z
  · exact absurd z.1 q
  · exact z
theorem keepA_WF {a : AS} (h : WF a) (hR : nR a ≠ 0) (hn : nA a < 20) : WF (keepA a) := by
  obtain ⟨t1, t2, t3, t4, t5, t6, t7, t8, t9, t10, t11⟩ := h.told hR
  refine ⟨h.1, h.2.1, hn, Or.inr ⟨t1, t2, t3, t4, t5, t6, t7, t8, t9, t10, fun i hi => ?_⟩⟩
  show Tab (nR a) (nC a) (hol a) (if i = nA a then cel a else pst a i) ∧ Sam (cel a) (if i = nA a then cel a else pst a i)
  by_cases c : i = nA a
  · rw [if_pos c]; exact ⟨t10, Sam.rf _⟩
  · rw [if_neg c]
    have hi : i < nA a + 1 := hi
    exact t11 i (by omega)
theorem backA_WF {a : AS} (h : WF a) (hR : nR a ≠ 0) {k : Nat} (hk : k < nA a) : WF (backA a k) := by
  obtain ⟨t1, t2, t3, t4, t5, t6, t7, t8, t9, t10, t11⟩ := h.told hR
  have hs := (t11 k hk).2
  refine ⟨h.1, h.2.1, by have := h.2.2.1; show k ≤ 20; omega, Or.inr ⟨t1, t2, t3, t4, t5, t6, t7, ?_, fun y x => ?_, (t11 k hk).1, fun i hi => ?_⟩⟩
  · show tsum (pst a k) ≤ 20
    rw [hs.ts]; exact t8
  · show rsum (pst a k) y ≤ 14 ∨ csum (pst a k) x ≤ 14
    rw [hs.1 y, hs.2 x]; exact t9 y x
  · have hi : i < k := hi
    exact ⟨(t11 i (by omega)).1, hs.sy.tr (t11 i (by omega)).2⟩
section A1
variable {g : GX} {d : Nat} {ρ : Rs} {S : St} {a : AS}
theorem sC_isTold {Q : Int32 → St → Prop} (hρ : Ok ρ) (hW : WF a) (hI : IB a S) (h : Q (if nR a = 0 then 0 else 1) S) : CALLi g (d + 3) mX9_isTold [.ref 21] ρ ρ S Q := by
  have hl := hW.le
  refine eX9_isTold hρ ?_
  rw [hI.2.2.2.2.1]
  have iz : nI (nR a) ≤ 0 ↔ nR a ≤ 0 := nI_leI (b := 0) (by omega) (by omega)
  by_cases c : nR a = 0
  · rw [if_pos (iz.mpr (by omega))]
    rw [if_pos c] at h
    exact h
  · rw [if_neg (fun z => c (by have := iz.mp z; omega))]
    rw [if_neg c] at h
    exact h
theorem sC_remember {Q : St → Prop} (hρ : Ok ρ) (hF : ∀ k ∈ ([24, 21] : List Nat), gF g k) (hn : nA a < 20) (hI : IB a S) (h : ∀ S', IB (keepA a) S' → Fr (fun k => k = 21 ∨ k = 24) S S' → Q S') : CALLv g (d + 3) mX9_remember [.ref 21] ρ ρ S Q := by
  obtain ⟨b1, b2, b3, b4, b5, b6, b7, b8, b9, b10, b11, b12, b13, b14⟩ := hI
  refine eX9_remember hρ hF ?_
  rw [b13, if_neg (nI_pos (by omega)), if_neg (show ¬ (20 : Int32) ≤ nI (nA a) from nI_ge (b := 20) hn (by omega)), nI_clamp (by omega), b12, nI_1]
  refine ⟨vp_in_nI (by omega) (by omega), h _ ?_ ((Fr.setL _ _ _ (Or.inr rfl)).tr (Fr.setI _ _ _ (Or.inl rfl)))⟩
  refine ⟨?_, ?_, ?_, ?_, ?_, ?_, ?_, ?_, ?_, ?_, ?_, ?_, ?_, fun i hi => ?_⟩
  · simp [setI_at, setL, b1]; rfl
  · intro i hi; rw [setI_ne _ _ _ (by decide)]; exact b2 i hi
  · simp [setI_at, setL, b3]; rfl
  · simp [setI_at, setL, b4]; rfl
  · simp [setI_at, setL, b5]; rfl
  · simp [setI_at, setL, b6]; rfl
  · simp [setI_at, setL, b7]; rfl
  · simp [setI_at, setL, b8]; rfl
  · rw [setI_at, if_neg (fun z => absurd z.2 (by decide))]; exact b9
  · intro y hy; rw [setI_ne _ _ _ (by decide)]; exact b10 y hy
  · intro x hx; rw [setI_ne _ _ _ (by decide)]; exact b11 x hx
  · rw [setI_L, setL_at, if_neg (fun z => absurd z.1 (by decide))]; exact b12
  · rw [setI_at, if_pos ⟨rfl, rfl⟩]; rfl
  · have hi : i < nA a + 1 := hi
    rw [setI_L, setL_at]
    show _ = lN (pack (if i = nA a then cel a else pst a i))
    by_cases c : i = nA a
    · rw [if_pos ⟨rfl, c⟩, if_pos c]
    · rw [if_neg (fun z => c z.2), if_neg c]; exact b14 i (by omega)
theorem sC_goBackTo {Q : St → Prop} (hρ : Ok ρ) (hF : ∀ k ∈ ([21] : List Nat), gF g k) (hW : WF a) (hR : nR a ≠ 0) {k : Nat} (hk : k < nA a) (hI : IB a S) (h : ∀ S', IB (backA a k) S' → Fr (fun k => k = 21) S S' → Q S') : CALLv g (d + 3) mX9_goBackTo [.ref 21, .int (nI k)] ρ ρ S Q := by
  have hl := hW.le
  have hs := ((hW.told hR).2.2.2.2.2.2.2.2.2.2 k hk).2
  obtain ⟨b1, b2, b3, b4, b5, b6, b7, b8, b9, b10, b11, b12, b13, b14⟩ := hI
  refine eX9_goBackTo hρ hF ?_
  rw [b13, if_neg (nI_pos (by omega)), if_neg (nI_ge hk (by omega)), if_neg (show ¬ (20 : Int32) ≤ nI k from nI_ge (b := 20) (by omega) (by omega)), nI_clamp (by omega), b14 k hk]
  refine ⟨vp_in_nI (by omega) (by omega), h _ ?_ (Fr.tr (F := fun k => k = 21) (Fr.setL S 7 _ rfl) (Fr.setI _ 8 _ rfl))⟩
  refine ⟨?_, ?_, ?_, ?_, ?_, ?_, ?_, ?_, ?_, ?_, ?_, ?_, ?_, fun i hi => ?_⟩
  · simp [setI_at, setL, b1]; rfl
  · intro i hi; rw [setI_ne _ _ _ (by decide)]; exact b2 i hi
  · simp [setI_at, setL, b3]; rfl
  · simp [setI_at, setL, b4]; rfl
  · simp [setI_at, setL, b5]; rfl
  · simp [setI_at, setL, b6]; rfl
  · simp [setI_at, setL, b7]; rfl
  · show _ = nI (tsum (pst a k))
    rw [hs.ts]
    simp [setI_at, setL, b8]
  · rw [setI_at, if_neg (fun z => absurd z.2 (by decide))]; exact b9
  · intro y hy
    show _ = nI (rsum (pst a k) y)
    rw [hs.1 y, setI_ne _ _ _ (by decide)]; exact b10 y hy
  · intro x hx
    show _ = nI (csum (pst a k) x)
    rw [hs.2 x, setI_ne _ _ _ (by decide)]; exact b11 x hx
  · rw [setI_L, setL_at, if_pos ⟨rfl, rfl⟩]; rfl
  · rw [setI_at, if_pos ⟨rfl, rfl⟩]; rfl
  · have hi : i < k := hi
    rw [setI_L, setL_at, if_neg (fun z => absurd z.1 (by decide))]; exact b14 i (by omega)
theorem sM_is {Q : Int32 → St → Prop} (hρ : Ok ρ) (hW : WF a) (hI : IM a S) (h : Q (if nR a = 0 then 0 else 1) S) : CALLi g d mX12_is [.ref 80] ρ ρ S Q := by
  have hl := hW.le
  refine eX12_is hρ ?_
  rw [hI.2.2.2.2.2.2.2.1]
  have iz : nI (nLn a) ≤ 0 ↔ nLn a ≤ 0 := nI_leI (b := 0) (by omega) (by omega)
  rcases hW.2.2.2 with z | z
  · rw [if_pos (iz.mpr (by have := z.2.2.1; omega))]
    rw [if_pos z.1] at h
    exact h
  · rw [if_neg (fun y => by have := iz.mp y; have := z.2.2.2.2.1; omega)]
    rw [if_neg (by have := z.1; omega)] at h
    exact h
theorem sM_keeps {Q : St → Prop} (hρ : Ok ρ) (hF : ∀ k ∈ ([81, 83] : List Nat), gF g k) (hn : nA a < 20) (hI : IM a S) (h : ∀ S', IM (keepA a) S' → Fr (fun k => k = 81 ∨ k = 83) S S' → Q S') : CALLv g d mX12_keeps [.ref 80] ρ ρ S Q := by
  obtain ⟨i1, i2, i3, i4, i5, i6, i7, i8, i9, i10, i11⟩ := hI
  refine eX12_keeps hρ ?_
  have key : ∀ n x S1, x + n = 16 → S1.1 81 = S.1 81 → Fr (fun k => k = 81 ∨ k = 83) S S1 → (∀ i k, k < 16 → (i < nA a ∨ i = nA a ∧ k < x) → S1.1 83 (16 * i + k) = nI (flt (nC a) (if i = nA a then cel a else pst a i) k)) → AW g ρ (QV Q) d mX12_keeps 2 [(0, .ref 80), (1, .int (nI x))] [] ρ S1 := by
    intro n
    induction n with
    | zero =>
      intro x S1 hx e81 f1 ep
      refine eX12_keeps_2 hρ hF ?_
      rw [if_pos (show (16 : Int32) ≤ nI x from nI_le (a := 16) (by omega) (by omega)), e81, i9, nI_1]
      have q80 := (f1 80 (by decide)).1
      have q84 := (f1 84 (by decide)).1
      refine h _ ⟨?_, ?_, ?_, ?_, ?_, ?_, ?_, ?_, ?_, fun k hk => ?_, fun i hi k hk => ?_⟩ (f1.tr (Fr.setI _ _ _ (Or.inl rfl)))
      · rw [setI_ne _ _ _ (by decide), q80]; exact i1
      · intro i hi; rw [setI_ne _ _ _ (by decide), q84]; exact i2 i hi
      · rw [setI_ne _ _ _ (by decide), q80]; exact i3
      · rw [setI_ne _ _ _ (by decide), q80]; exact i4
      · rw [setI_at, if_neg (fun z => absurd z.2 (by decide)), e81]; exact i5
      · rw [setI_at, if_neg (fun z => absurd z.2 (by decide)), e81]; exact i6
      · rw [setI_at, if_neg (fun z => absurd z.2 (by decide)), e81]; exact i7
      · rw [setI_at, if_neg (fun z => absurd z.2 (by decide)), e81]; exact i8
      · rw [setI_at, if_pos ⟨rfl, rfl⟩]; rfl
      · rw [setI_at, if_neg (fun z => by omega), e81]; exact i10 k hk
      · have hi : i < nA a + 1 := hi
        rw [setI_ne _ _ _ (by decide)]
        exact ep i k hk (by omega)
    | succ n ih =>
      intro x S1 hx e81 f1 ep
      refine eX12_keeps_2 hρ hF ?_
      have e5 : (5 : Int32) + nI x = nI (5 + x) := nI_add 5 x
      have e16 : (16 : Int32) * nI (nA a) + nI x = nI (16 * nA a + x) := by
        show nI 16 * nI (nA a) + nI x = _
        rw [pk_mul, nI_add]
      rw [if_neg (show ¬ (16 : Int32) ≤ nI x from nI_ge (b := 16) (by omega) (by omega)), e81, i9, e16, e5, nI_clamp (by omega), nI_clamp (by omega), i10 x (by omega), nI_1]
      refine ⟨vp_in_nI (by omega) (by omega), vp_in_nI (by omega) (by omega), ih (x + 1) _ (by omega) ?_ (f1.tr (Fr.setI _ _ _ (Or.inr rfl))) (fun i k hk hik => ?_)⟩
      · rw [setI_ne _ _ _ (by decide)]; exact e81
      · rw [setI_at]
        by_cases c : i = nA a ∧ k = x
        · rw [if_pos ⟨rfl, by omega⟩, if_pos c.1, c.2]
        · rw [if_neg (fun z => c (by omega))]; exact ep i k hk (by omega)
  exact key 16 0 S (by omega) rfl (Fr.rf S) (fun i k hk hik => by rw [if_neg (by omega)]; exact i11 i (by omega) k hk)
theorem sM_goesBack {Q : St → Prop} (hρ : Ok ρ) (hF : ∀ k ∈ ([81] : List Nat), gF g k) (hW : WF a) {k : Nat} (hk : k < nA a) (hI : IM a S) (h : ∀ S', IM (backA a k) S' → Fr (fun k => k = 81) S S' → Q S') : CALLv g d mX12_goesBack [.ref 80, .int (nI k)] ρ ρ S Q := by
  have hl := hW.le
  obtain ⟨i1, i2, i3, i4, i5, i6, i7, i8, i9, i10, i11⟩ := hI
  refine eX12_goesBack hρ hF ?_
  have key : ∀ n x S1, x + n = 16 → (∀ j, j < 4 → S1.1 81 j = S.1 81 j) → S1.1 81 4 = nI k → (∀ j, j < x → S1.1 81 (5 + j) = nI (flt (nC a) (pst a k) j)) → Fr (fun k => k = 81) S S1 → AW g ρ (QV Q) d mX12_goesBack 9 [(0, .ref 80), (1, .int (nI k)), (2, .int (nI x))] [] ρ S1 := by
    intro n
    induction n with
    | zero =>
      intro x S1 hx e81 e4 ec f1
      refine eX12_goesBack_9 hρ hF ?_
      rw [if_pos (show (16 : Int32) ≤ nI x from nI_le (a := 16) (by omega) (by omega))]
      have q80 := (f1 80 (by decide)).1
      have q84 := (f1 84 (by decide)).1
      have q83 := (f1 83 (by decide)).1
      refine h _ ⟨?_, ?_, ?_, ?_, ?_, ?_, ?_, ?_, e4, fun j hj => ec j (by omega), fun i hi j hj => ?_⟩ f1
      · rw [q80]; exact i1
      · intro i hi; rw [q84]; exact i2 i hi
      · rw [q80]; exact i3
      · rw [q80]; exact i4
      · rw [e81 0 (by omega)]; exact i5
      · rw [e81 1 (by omega)]; exact i6
      · rw [e81 2 (by omega)]; exact i7
      · rw [e81 3 (by omega)]; exact i8
      · have hi : i < k := hi
        rw [q83]; exact i11 i (by omega) j hj
    | succ n ih =>
      intro x S1 hx e81 e4 ec f1
      refine eX12_goesBack_9 hρ hF ?_
      have e5 : (5 : Int32) + nI x = nI (5 + x) := nI_add 5 x
      have e16 : (16 : Int32) * nI k + nI x = nI (16 * k + x) := by
        show nI 16 * nI k + nI x = _
        rw [pk_mul, nI_add]
      rw [if_neg (show ¬ (16 : Int32) ≤ nI x from nI_ge (b := 16) (by omega) (by omega)), e16, e5, nI_clamp (by omega), nI_clamp (by omega), (f1 83 (by decide)).1, i11 k hk x (by omega), nI_1]
      refine ⟨vp_in_nI (by omega) (by omega), vp_in_nI (by omega) (by omega), ih (x + 1) _ (by omega) (fun j hj => ?_) ?_ (fun j hj => ?_) (f1.tr (Fr.setI _ _ _ rfl))⟩
      · rw [setI_at, if_neg (fun z => by omega)]; exact e81 j hj
      · rw [setI_at, if_neg (fun z => by omega)]; exact e4
      · rw [setI_at]
        by_cases c : j = x
        · rw [if_pos ⟨rfl, by omega⟩, c]
        · rw [if_neg (fun z => c (by omega))]; exact ec j (by omega)
  refine key 16 0 _ (by omega) (fun j hj => ?_) ?_ (fun j hj => by omega) (Fr.setI _ _ _ rfl)
  · rw [setI_at, if_neg (fun z => by omega)]
  · rw [setI_at, if_pos ⟨rfl, rfl⟩]
/-- undo and anew, both sides -/
theorem sC_undo {Q : Int32 → St → Prop} (hρ : Ok ρ) (hF : ∀ k ∈ ([21] : List Nat), gF g k) (hW : WF a) (hI : IB a S) (h0 : nR a = 0 → Q (-2) S) (h1 : nR a ≠ 0 → nA a = 0 → Q (-5) S) (h2 : nR a ≠ 0 → nA a ≠ 0 → ∀ S', IB (backA a (nA a - 1)) S' → Fr (fun k => k = 21) S S' → Q (nI (nA a - 1)) S') : CALLi g (d + 4) mX11_undo [.ref 16] ρ ρ S Q := by
  have hl := hW.le
  refine eX11_undo hρ (sC_isTold hρ hW hI ?_)
  have e8 : S.1 21 8 = nI (nA a) := hI.2.2.2.2.2.2.2.2.2.2.2.2.1
  have iz : nI (nA a) = 0 ↔ nA a = 0 := nI_eq (b := 0) (by omega) (by omega)
  by_cases c : nR a = 0
  · rw [if_pos c, if_pos rfl]; exact h0 c
  · rw [if_neg c, if_neg (by decide), e8]
    by_cases c2 : nA a = 0
    · rw [if_pos (iz.mpr c2)]; exact h1 c c2
    · rw [if_neg (fun z => c2 (iz.mp z)), show nI (nA a) - 1 = nI (nA a - 1) from pk_sub (b := 1) (by omega)]
      refine sC_goBackTo hρ hF hW c (by omega) hI (fun S' q f => ?_)
      rw [q.2.2.2.2.2.2.2.2.2.2.2.2.1]
      exact h2 c c2 S' q f
theorem sC_anew {Q : Int32 → St → Prop} (hρ : Ok ρ) (hF : ∀ k ∈ ([21] : List Nat), gF g k) (hW : WF a) (hI : IB a S) (h0 : nR a = 0 → Q (-2) S) (h1 : nR a ≠ 0 → nA a = 0 → Q 0 S) (h2 : nR a ≠ 0 → nA a ≠ 0 → ∀ S', IB (backA a 0) S' → Fr (fun k => k = 21) S S' → Q (nI (nA a)) S') : CALLi g (d + 4) mX11_anew [.ref 16] ρ ρ S Q := by
  have hl := hW.le
  refine eX11_anew hρ (sC_isTold hρ hW hI ?_)
  have e8 : S.1 21 8 = nI (nA a) := hI.2.2.2.2.2.2.2.2.2.2.2.2.1
  by_cases c : nR a = 0
  · rw [if_pos c, if_pos rfl]; exact h0 c
  · rw [if_neg c, if_neg (by decide)]
    by_cases c2 : nA a = 0
    · refine eX9_goBackTo hρ hF ?_
      rw [if_neg (by decide), e8, c2, if_pos (show nI 0 ≤ (0 : Int32) by decide)]
      exact h1 c c2
    · rw [e8]
      exact sC_goBackTo hρ hF hW c (k := 0) (by omega) hI (fun S' q f => h2 c c2 S' q f)
theorem sM_undo {Q : Int32 → St → Prop} (hρ : Ok ρ) (hF : ∀ k ∈ ([81] : List Nat), gF g k) (hW : WF a) (hI : IM a S) (h0 : nR a = 0 → Q (-2) S) (h1 : nR a ≠ 0 → nA a = 0 → Q (-5) S) (h2 : nR a ≠ 0 → nA a ≠ 0 → ∀ S', IM (backA a (nA a - 1)) S' → Fr (fun k => k = 81) S S' → Q (nI (nA a - 1)) S') : CALLi g (d + 1) mX12_undo [.ref 80] ρ ρ S Q := by
  have hl := hW.le
  refine eX12_undo hρ (sM_is hρ hW hI ?_)
  have e8 : S.1 81 4 = nI (nA a) := hI.2.2.2.2.2.2.2.2.1
  have iz : nI (nA a) = 0 ↔ nA a = 0 := nI_eq (b := 0) (by omega) (by omega)
  by_cases c : nR a = 0
  · rw [if_pos c, if_pos rfl]; exact h0 c
  · rw [if_neg c, if_neg (by decide), e8]
    by_cases c2 : nA a = 0
    · rw [if_pos (iz.mpr c2)]; exact h1 c c2
    · rw [if_neg (fun z => c2 (iz.mp z)), show nI (nA a) - 1 = nI (nA a - 1) from pk_sub (b := 1) (by omega)]
      refine sM_goesBack hρ hF hW (by omega) hI (fun S' q f => ?_)
      rw [q.2.2.2.2.2.2.2.2.1]
      exact h2 c c2 S' q f
theorem sM_anew {Q : Int32 → St → Prop} (hρ : Ok ρ) (hF : ∀ k ∈ ([81] : List Nat), gF g k) (hW : WF a) (hI : IM a S) (h0 : nR a = 0 → Q (-2) S) (h1 : nR a ≠ 0 → nA a = 0 → Q 0 S) (h2 : nR a ≠ 0 → nA a ≠ 0 → ∀ S', IM (backA a 0) S' → Fr (fun k => k = 81) S S' → Q (nI (nA a)) S') : CALLi g (d + 1) mX12_anew [.ref 80] ρ ρ S Q := by
  have hl := hW.le
  refine eX12_anew hρ (sM_is hρ hW hI ?_)
  have e8 : S.1 81 4 = nI (nA a) := hI.2.2.2.2.2.2.2.2.1
  have iz : nI (nA a) ≤ 0 ↔ nA a ≤ 0 := nI_leI (b := 0) (by omega) (by omega)
  by_cases c : nR a = 0
  · rw [if_pos c, if_pos rfl]; exact h0 c
  · rw [if_neg c, if_neg (by decide), e8]
    by_cases c2 : nA a = 0
    · rw [if_pos (iz.mpr (by omega)), c2]; exact h1 c c2
    · rw [if_neg (fun z => c2 (by have := iz.mp z; omega))]
      exact sM_goesBack hρ hF hW (k := 0) (by omega) hI (fun S' q f => h2 c c2 S' q f)
end A1
