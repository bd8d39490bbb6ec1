-- WORDS
def wL (w : Nat) : Nat := lenW.getD w 0
def wB (w i : Nat) : Nat := (([[116, 97, 98, 108, 101], [114, 111, 119, 115], [99, 111, 108, 117, 109, 110, 115], [114, 111, 119], [104, 111, 108, 101]] : List (List Nat)).getD w []).getD i 0
def isW (B : Nat → Nat) (f t w : Nat) : Bool := decide (t - f = wL w ∧ ∀ i, i < wL w → B (f + i) = wB w i)
theorem wL_len : ∀ w, w < 5 → (Int32.ofNat (lenW.getD w 0)) >>> ((0 : Int32) &&& 31) = nI (wL w) := by decide
theorem wL_le : ∀ w, w < 5 → wL w ≤ 7 := by decide
theorem wB_chr : ∀ w, w < 5 → ∀ i, i < wL w → (((((bytW.getD w []).getD i 0) &&& 255).toUInt32 % 65536).toInt32) = nI (wB w i) := by decide
theorem wB_nar : ∀ w, w < 5 → ∀ i, i < wL w → ((nI (wB w i)).toUInt32 % 65536).toInt32 = nI (wB w i) := by decide
theorem wB_lt : ∀ w, w < 5 → ∀ i, i < wL w → wB w i < 256 := by decide
section W1
variable {g : GX} {d : Nat} {ρ : Rs} {S : St} {B : Nat → Nat} {L : Nat}
theorem sJ_len {w : Nat} {Q : Int32 → St → Prop} (hρ : Ok ρ) (hw : w < 5) (h : Q (nI (wL w)) S) : CALLi g (d + 1) mJ0_length_8abf5 [.ref w] ρ ρ S Q := by
  refine eJ0_length_8abf5 hρ hw (eJ0_coder_7d493 hρ hw ?_)
  rw [if_neg (by decide)]
  refine ⟨rfl, ?_⟩
  rw [wL_len w hw]
  exact h
theorem sJ_chr {w i : Nat} {Q : Int32 → St → Prop} (hρ : Ok ρ) (hw : w < 5) (hi : i < wL w) (h : Q (nI (wB w i)) S) : CALLi g (d + 4) mJ0_charAt_5068e [.ref w, .int (nI i)] ρ ρ S Q := by
  have h7 := wL_le w hw
  refine eJ0_charAt_5068e hρ hw (eJ0_isLatin1_aae02 hρ hw ?_)
  rw [if_neg (by decide), if_pos rfl, if_neg (by decide)]
  refine eJ1_charAt_3b067 hρ hw (eJ0_checkIndex_df160 hρ ?_)
  have e : (Int32.ofNat (lenW.getD w 0)) = nI (wL w) := rfl
  have nn : narrow .char (.int (nI (wB w i))) = .int (nI (wB w i)) := congrArg Value.int (wB_nar w hw i hi)
  have fin : vp_in (nI i) (lenW.getD w 0) ∧ (narrow .char (.int (((((bytW.getD w []).getD (nI i).toNatClampNeg 0) &&& 255).toUInt32 % 65536).toInt32)) = .int (((((bytW.getD w []).getD (nI i).toNatClampNeg 0) &&& 255).toUInt32 % 65536).toInt32) ∧ (narrow .char (.int (((((bytW.getD w []).getD (nI i).toNatClampNeg 0) &&& 255).toUInt32 % 65536).toInt32)) = .int (((((bytW.getD w []).getD (nI i).toNatClampNeg 0) &&& 255).toUInt32 % 65536).toInt32) ∧ Q (((((bytW.getD w []).getD (nI i).toNatClampNeg 0) &&& 255).toUInt32 % 65536).toInt32) S)) := by
    rw [nI_clamp (by omega), wB_chr w hw i hi]
    exact ⟨vp_in_nI (show i < wL w from hi) (show wL w < 2 ^ 31 by omega), nn, nn, h⟩
  refine ⟨eJ3_checkIndex_8e157n hρ ?_, eJ3_checkIndex_8e157 hρ ?_⟩
  · rw [e, if_neg (nI_pos (by omega)), if_pos (nI_lt hi (by omega))]
    exact fin
  · rw [e, if_neg (nI_pos (by omega)), if_pos (nI_lt hi (by omega))]
    exact fin
theorem isW1 {f t w : Nat} (h1 : t - f = wL w) (h2 : ∀ i, i < wL w → B (f + i) = wB w i) : isW B f t w = true := decide_eq_true ⟨h1, h2⟩
theorem isW0 {f t w : Nat} (h : ¬ (t - f = wL w ∧ ∀ i, i < wL w → B (f + i) = wB w i)) : isW B f t w = false := decide_eq_false h
theorem sC_isWord {w : Nat} {Q : Int32 → St → Prop} (hρ : Ok ρ) (hw : w < 5) (hB : Byt 17 1 18 B L S) {f t : Nat} (hft : f ≤ t) (ht : t ≤ L) (e1 : S.1 19 9 = nI f) (e2 : S.1 19 10 = nI t) (h : Q (if isW B f t w then 1 else 0) S) : CALLi g (d + 8) mX8_isWord [.ref 19, .ref 17, .ref w] ρ ρ S Q := by
  have h7 := wL_le w hw
  have h3 := hB.2.2.2
  refine eX8_isWord hρ hw (sJ_len hρ hw ?_)
  rw [e1, e2, pk_sub hft]
  by_cases c : t - f = wL w
  · rw [c, if_pos rfl]
    have key : ∀ n i, i + n = wL w → (∀ j, j < i → B (f + j) = wB w j) → AW g ρ (QI Q) (d + 8) mX8_isWord 20 [(0, .ref 19), (1, .ref 17), (2, .ref w), (3, .int (nI i))] [] ρ S := by
      intro n
      induction n with
      | zero =>
        intro i hi hj
        refine eX8_isWord_20 hρ hw (sJ_len hρ hw ?_)
        rw [if_pos (nI_le (by omega) (by omega))]
        rw [isW1 c (fun j q => hj j (by omega))] at h
        exact h
      | succ n ih =>
        intro i hi hj
        refine eX8_isWord_20 hρ hw (sJ_len hρ hw ?_)
        rw [if_neg (nI_ge (by omega) (by omega)), e1, nI_add]
        refine sC_byteAt hρ hB (by omega) (sJ_chr hρ hw (by omega) ?_)
        have b1 := wB_lt w hw i (by omega)
        have b2 := hB.2.2.1 (f + i) (by omega)
        have eq : nI (B (f + i)) = nI (wB w i) ↔ B (f + i) = wB w i := nI_eq (by omega) (by omega)
        by_cases c2 : B (f + i) = wB w i
        · rw [if_pos (eq.mpr c2), nI_1]
          refine ih (i + 1) (by omega) (fun j hj2 => ?_)
          by_cases z : j = i
          · rw [z]; exact c2
          · exact hj j (by omega)
        · rw [if_neg (fun z => c2 (eq.mp z))]
          rw [isW0 (fun z => c2 (z.2 i (by omega)))] at h
          exact h
    exact key (wL w) 0 (by omega) (fun j hj => by omega)
  · rw [if_neg (fun z => c ((nI_eq (by omega) (by omega)).mp z))]
    rw [isW0 (fun z => c z.1)] at h
    exact h
theorem sM_isWord {w : Nat} {Q : Int32 → St → Prop} (hρ : Ok ρ) (hw : w < 5) (hB : Byt 80 4 84 B L S) {f t k : Nat} (hft : f ≤ t) (ht : t ≤ L) (hk : k < 2 ^ 31) (e0 : S.1 80 9 = nI k) (e1 : S.1 80 8 = nI f) (e2 : S.1 80 7 = nI t) (h : Q (if k = 1 ∧ isW B f t w then 1 else 0) S) : CALLi g (d + 5) mX12_isWord [.ref 80, .ref w] ρ ρ S Q := by
  have h7 := wL_le w hw
  have h3 := hB.2.2.2
  refine eX12_isWord hρ hw ?_
  have ek : nI k = 1 ↔ k = 1 := nI_eq (b := 1) hk (by omega)
  rw [e0]
  by_cases ck : k = 1
  · rw [if_pos (ek.mpr ck)]
    refine sJ_len hρ hw ?_
    rw [e1, e2, pk_sub hft]
    by_cases c : t - f = wL w
    · rw [c, if_pos rfl]
      have key : ∀ n i, i + n = wL w → (∀ j, j < i → B (f + j) = wB w j) → AW g ρ (QI Q) (d + 5) mX12_isWord 28 [(0, .ref 80), (1, .ref w), (2, .int (nI i))] [] ρ S := by
        intro n
        induction n with
        | zero =>
          intro i hi hj
          refine eX12_isWord_28 hρ hw (sJ_len hρ hw ?_)
          rw [if_pos (nI_le (by omega) (by omega))]
          rw [if_pos ⟨ck, isW1 c (fun j q => hj j (by omega))⟩] at h
          exact h
        | succ n ih =>
          intro i hi hj
          refine eX12_isWord_28 hρ hw (sJ_len hρ hw ?_)
          rw [if_neg (nI_ge (by omega) (by omega)), e1, nI_add, nI_clamp (by omega), hB.2.1 (f + i) (by omega)]
          refine ⟨vp_in_nI (by omega) (by omega), sJ_chr hρ hw (by omega) ?_⟩
          have b1 := wB_lt w hw i (by omega)
          have b2 := hB.2.2.1 (f + i) (by omega)
          have eq : nI (B (f + i)) = nI (wB w i) ↔ B (f + i) = wB w i := nI_eq (by omega) (by omega)
          by_cases c2 : B (f + i) = wB w i
          · rw [if_pos (eq.mpr c2), nI_1]
            refine ih (i + 1) (by omega) (fun j hj2 => ?_)
            by_cases z : j = i
            · rw [z]; exact c2
            · exact hj j (by omega)
          · rw [if_neg (fun z => c2 (eq.mp z))]
            rw [isW0 (fun z => c2 (z.2 i (by omega))), if_neg (fun z => absurd z.2 (by decide))] at h
            exact h
      exact key (wL w) 0 (by omega) (fun j hj => by omega)
    · rw [if_neg (fun z => c ((nI_eq (by omega) (by omega)).mp z))]
      rw [isW0 (fun z => c z.1), if_neg (fun z => absurd z.2 (by decide))] at h
      exact h
  · rw [if_neg (fun z => ck (ek.mp z))]
    rw [if_neg (fun z => ck z.1)] at h
    exact h
end W1
