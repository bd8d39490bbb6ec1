/-- one of the four bytes of a number, the highest first -/
def byteOf (w : Int32) (j : Nat) : Nat := w.toBitVec.toNat / 2 ^ (24 - 8 * j) % 256
theorem byteOf_lt (w : Int32) (j : Nat) : byteOf w j < 256 := Nat.mod_lt _ (by decide)
theorem byte_val (w : Int32) {j : Nat} (hj : j < 4) : (((w.toUInt32 >>> ((nI (24 - 8 * j)).toUInt32 &&& Int32.toUInt32 31)).toInt32) &&& 255) = nI (byteOf w j) := by
  have h := pk_and ((w.toUInt32 >>> ((nI (24 - 8 * j)).toUInt32 &&& Int32.toUInt32 31)).toInt32) (m := 255) 8 (by decide)
  rw [h, pk_ushr w _ (24 - 8 * j) (s_u _ (by omega))]
  rfl
def TapeI (kl ks kb : Nat) (S : St) (L : Nat) (B : Nat → Nat) : Prop := S.1 kl ks = nI L ∧ ∀ i, i < L → S.1 kb i = nI (B i)
def addB (L : Nat) (B : Nat → Nat) (w : Int32) (n : Nat) : Nat → Nat := fun i => if L ≤ i ∧ i < L + n then byteOf w (i - L) else B i
section T1
variable {g : GX} {d : Nat} {ρ : Rs} {S : St} {a : AS}
theorem sC_put {Q : St → Prop} (hρ : Ok ρ) {w : Int32} {L : Nat} {B : Nat → Nat} (hF : ∀ k ∈ ([18, 17] : List Nat), gF g k) (hL : L + 4 ≤ 300) (hT : TapeI 17 1 18 S L B) (h : ∀ S', TapeI 17 1 18 S' (L + 4) (addB L B w 4) → Fr (fun k => k = 17 ∨ k = 18) S S' → Q S') : CALLv g (d + 3) mX10_put [.ref 17, .int w] ρ ρ S Q := by
  refine eX10_put hρ ?_
  have step : ∀ (j : Nat) (S1 : St), j < 4 → TapeI 17 1 18 S1 (L + j) (addB L B w j) → Fr (fun k => k = 17 ∨ k = 18) S S1 →
      (∀ S2, TapeI 17 1 18 S2 (L + (j + 1)) (addB L B w (j + 1)) → Fr (fun k => k = 17 ∨ k = 18) S S2 → AW g ρ (QV Q) (d + 3) mX10_put 3 [(0, .ref 17), (1, .int w), (2, .int (nI (24 - 8 * j) + (-8)))] [] ρ S2) →
      AW g ρ (QV Q) (d + 3) mX10_put 3 [(0, .ref 17), (1, .int w), (2, .int (nI (24 - 8 * j)))] [] ρ S1 := by
    intro j S1 hj h1 h2 k
    refine eX10_put_3 hρ hF ?_
    rw [h1.1, if_neg (nI_pos (by omega)), if_neg (nI_pos (by omega)), if_neg (show ¬ (300 : Int32) ≤ nI (L + j) from nI_ge (b := 300) (by omega) (by omega))]
    refine ⟨vp_in_nI (by omega) (by omega), k _ ⟨?_, ?_⟩ ?_⟩
    · rw [setI_at, if_pos ⟨rfl, rfl⟩, nI_1]
      rfl
    · intro i hi
      rw [setI_at, if_neg (fun q => absurd q.1 (by decide)), setI_at, nI_clamp (by omega), byte_val w hj]
      by_cases e : i = L + j
      · rw [if_pos ⟨rfl, e⟩, e]
        unfold addB
        rw [if_pos (by omega), show L + j - L = j by omega]
      · rw [if_neg (fun q => e q.2), h1.2 i (by omega)]
        unfold addB
        by_cases e2 : L ≤ i ∧ i < L + j
        · rw [if_pos e2, if_pos (by omega)]
        · rw [if_neg e2, if_neg (by omega)]
    · exact h2.tr ((Fr.setI S1 _ _ (Or.inr rfl)).tr (Fr.setI _ _ _ (Or.inl rfl)))
  refine step 0 S (by decide) ⟨hT.1, fun i hi => by unfold addB; rw [if_neg (by omega)]; exact hT.2 i hi⟩ (Fr.rf S) (fun S1 h1 f1 => ?_)
  refine step 1 S1 (by decide) h1 f1 (fun S2 h2 f2 => ?_)
  refine step 2 S2 (by decide) h2 f2 (fun S3 h3 f3 => ?_)
  refine step 3 S3 (by decide) h3 f3 (fun S4 h4 f4 => ?_)
  refine eX10_put_3 hρ hF ?_
  rw [if_pos (by decide)]
  exact h S4 h4 f4
end T1
/-- the tape behind a feed -/
def fedB (a : AS) (w : Nat → Int32) : Nat → Nat := fun i => if i < tL a then tB a i else byteOf (w ((i - tL a) / 4)) ((i - tL a) % 4)
def fedA (a : AS) (w : Nat → Int32) : AS := ((tL a + 20, fedB a w), a.2)
theorem fedA_wf {a : AS} {w : Nat → Int32} (h : WF a) (hr : tL a + 20 ≤ 300) : WF (fedA a w) := by
  refine ⟨hr, fun i hi => ?_, h.2.2.1, h.2.2.2⟩
  show (if i < tL a then tB a i else _) < 256
  split
  · exact h.2.1 i (by assumption)
  · exact byteOf_lt _ _
def wd5 (a b c d e : Int32) : Nat → Int32 := fun i => match i with
  | 0 => a
  | 1 => b
  | 2 => c
  | 3 => d
  | _ => e
theorem IB.fr {a : AS} {S S' : St} (hI : IB a S) {F : Nat → Prop} (hF : ∀ k, k = 17 ∨ k = 18 ∨ k = 19 ∨ k = 21 ∨ k = 22 ∨ k = 23 ∨ k = 24 → ¬ F k) (h : Fr F S S') : IB a S' := by
  have q17 := (h 17 (hF 17 (by simp))).1
  have q18 := (h 18 (hF 18 (by simp))).1
  have q19 := (h 19 (hF 19 (by simp))).1
  have q21 := h 21 (hF 21 (by simp))
  have q22 := (h 22 (hF 22 (by simp))).1
  have q23 := (h 23 (hF 23 (by simp))).1
  have q24 := (h 24 (hF 24 (by simp))).2
  unfold IB
  rw [q17, q18, q19, q21.1, q21.2, q22, q23, q24]
  exact hI
theorem IM.fr {a : AS} {S S' : St} (hI : IM a S) {F : Nat → Prop} (hF : ∀ k, k = 80 ∨ k = 81 ∨ k = 83 ∨ k = 84 → ¬ F k) (h : Fr F S S') : IM a S' := by
  have q80 := (h 80 (hF 80 (by simp))).1
  have q81 := (h 81 (hF 81 (by simp))).1
  have q83 := (h 83 (hF 83 (by simp))).1
  have q84 := (h 84 (hF 84 (by simp))).1
  unfold IM
  rw [q80, q81, q83, q84]
  exact hI
section T2
variable {g : GX} {d : Nat} {ρ : Rs} {S : St} {a : AS}
theorem sC_feed1 {Q : Int32 → St → Prop} (hρ : Ok ρ) (hF : ∀ k ∈ ([18, 17] : List Nat), gF g k) (hI : IB a S) (hr : tL a + 20 ≤ 300) {w1 w2 w3 w4 w5 : Int32} (h : ∀ S', IB (fedA a (wd5 w1 w2 w3 w4 w5)) S' → Fr (fun k => k = 17 ∨ k = 18) S S' → Q (nI (tL a + 20)) S') : CALLi g (d + 4) mX11_feed [.ref 16, .int w1, .int w2, .int w3, .int w4, .int w5] ρ ρ S Q := by
  refine eX11_feed hρ (eX10_hasRoom hρ ?_)
  rw [hI.1]
  have e : nI (tL a) + 20 = nI (tL a + 20) := nI_add _ 20
  rw [e, if_neg (show ¬ (300 : Int32) < nI (tL a + 20) from nI_nlt (a := 300) (by omega) (by omega)), if_neg (by decide)]
  refine sC_put hρ hF (by omega) ⟨hI.1, hI.2.1⟩ (fun S1 h1 f1 => ?_)
  refine sC_put hρ hF (by omega) h1 (fun S2 h2 f2 => ?_)
  refine sC_put hρ hF (by omega) h2 (fun S3 h3 f3 => ?_)
  refine sC_put hρ hF (by omega) h3 (fun S4 h4 f4 => ?_)
  refine sC_put hρ hF (by omega) h4 (fun S5 h5 f5 => ?_)
  have f := (((f1.tr f2).tr f3).tr f4).tr f5
  rw [h5.1, show tL a + 4 + 4 + 4 + 4 + 4 = tL a + 20 by omega]
  refine h S5 ?_ f
  have hb : ∀ i, i < tL a + 20 → S5.1 18 i = nI (fedB a (wd5 w1 w2 w3 w4 w5) i) := by
    intro i hi
    rw [h5.2 i (by omega)]
    congr 1
    simp only [addB, fedB]
    by_cases q0 : i < tL a
    · rw [if_neg (by omega), if_neg (by omega), if_neg (by omega), if_neg (by omega), if_neg (by omega), if_pos q0]
    · rw [if_neg q0]
      obtain ⟨m, rfl⟩ : ∃ m, i = tL a + m := ⟨i - tL a, by omega⟩
      rw [show tL a + m - tL a = m by omega]
      rcases (show m / 4 = 0 ∨ m / 4 = 1 ∨ m / 4 = 2 ∨ m / 4 = 3 ∨ m / 4 = 4 by omega) with z | z | z | z | z
      · rw [z, if_neg (by omega), if_neg (by omega), if_neg (by omega), if_neg (by omega), if_pos (by omega), show m % 4 = m by omega]
        rfl
      · rw [z, if_neg (by omega), if_neg (by omega), if_neg (by omega), if_pos (by omega), show tL a + m - (tL a + 4) = m % 4 by omega]
        rfl
      · rw [z, if_neg (by omega), if_neg (by omega), if_pos (by omega), show tL a + m - (tL a + 4 + 4) = m % 4 by omega]
        rfl
      · rw [z, if_neg (by omega), if_pos (by omega), show tL a + m - (tL a + 4 + 4 + 4) = m % 4 by omega]
        rfl
      · rw [z, if_pos (by omega), show tL a + m - (tL a + 4 + 4 + 4 + 4) = m % 4 by omega]
        rfl
  obtain ⟨i1, i2, i3⟩ := hI
  refine ⟨h5.1.trans (by show nI _ = nI (tL a + 20); congr 1), hb, ?_⟩
  have q19 := (f 19 (by decide)).1
  have q21 := f 21 (by decide)
  have q22 := (f 22 (by decide)).1
  have q23 := (f 23 (by decide)).1
  have q24 := (f 24 (by decide)).2
  rw [q19, q21.1, q21.2, q22, q23, q24]
  exact i3
theorem sC_feed0 {Q : Int32 → St → Prop} (hρ : Ok ρ) (hW : WF a) (hI : IB a S) (hr : ¬ tL a + 20 ≤ 300) {w1 w2 w3 w4 w5 : Int32} (h : Q (-1) S) : CALLi g (d + 4) mX11_feed [.ref 16, .int w1, .int w2, .int w3, .int w4, .int w5] ρ ρ S Q := by
  have hl := hW.le
  refine eX11_feed hρ (eX10_hasRoom hρ ?_)
  rw [hI.1]
  have e : nI (tL a) + 20 = nI (tL a + 20) := nI_add _ 20
  rw [e, if_pos (show (300 : Int32) < nI (tL a + 20) from nI_lt (a := 300) (by omega) (by omega)), if_pos rfl]
  exact h
theorem sC_fault {Q : Int32 → St → Prop} (hρ : Ok ρ) (hI : IB a S) {x1 : Int32} (h : Q (if x1 = 0 then fK a else if x1 = 1 then fP a else -1) S) : CALLi g (d + 3) mX11_fault [.ref 16, .int x1] ρ ρ S Q := by
  refine eX11_fault hρ ?_
  rw [hI.2.2.1, hI.2.2.2.1]
  split at h
  · rename_i q; rw [if_pos q]; exact h
  · rename_i q; rw [if_neg q]
    split at h
    · rename_i q; rw [if_pos q]; exact h
    · rename_i q; rw [if_neg q]; exact h
theorem sM_fault {Q : Int32 → St → Prop} (hρ : Ok ρ) (hI : IM a S) {x1 : Int32} (h : Q (if x1 = 0 then fK a else if x1 = 1 then fP a else -1) S) : CALLi g d mX12_fault [.ref 80, .int x1] ρ ρ S Q := by
  refine eX12_fault hρ ?_
  rw [hI.2.2.1, hI.2.2.2.1]
  split at h
  · rename_i q; rw [if_pos q]; exact h
  · rename_i q; rw [if_neg q]
    split at h
    · rename_i q; rw [if_pos q]; exact h
    · rename_i q; rw [if_neg q]; exact h
/-- the tape cut -/
def endA (a : AS) (n : Nat) : AS := ((n, tB a), a.2)
theorem endA_wf {a : AS} {n : Nat} (h : WF a) (hn : n ≤ tL a) : WF (endA a n) := ⟨Nat.le_trans hn h.1, fun i hi => h.2.1 i (Nat.lt_of_lt_of_le hi hn), h.2.2.1, h.2.2.2⟩
theorem sC_end1 {Q : Int32 → St → Prop} (hρ : Ok ρ) (hF : ∀ k ∈ ([17] : List Nat), gF g k) (hW : WF a) (hI : IB a S) {x1 : Int32} (h1 : vp_in x1 (tL a + 1)) (h : ∀ S', IB (endA a x1.toNatClampNeg) S' → Fr (fun k => k = 17) S S' → Q x1 S') : CALLi g (d + 3) mX11_end [.ref 16, .int x1] ρ ρ S Q := by
  have hl := hW.le
  have c := vin_cl h1
  have e := vin_eq h1 (by omega)
  refine eX11_end hρ hF ?_
  rw [hI.1, if_neg (by rw [e]; exact nI_pos (by omega)), if_pos (by rw [e]; exact nI_le (by omega) (by omega))]
  have f : Fr (fun k => k = 17) S (setI S 17 1 x1) := Fr.setI S _ _ rfl
  refine h _ ?_ f
  obtain ⟨i1, i2, i3⟩ := hI
  refine ⟨by rw [setI_at, if_pos ⟨rfl, rfl⟩]; exact e, fun i hi => ?_, ?_⟩
  · rw [setI_at, if_neg (fun q => absurd q.1 (by decide))]
    exact i2 i (by have : i < x1.toNatClampNeg := hi; omega)
  · have q19 := (f 19 (by decide)).1
    have q21 := f 21 (by decide)
    have q22 := (f 22 (by decide)).1
    have q23 := (f 23 (by decide)).1
    have q24 := (f 24 (by decide)).2
    rw [q19, q21.1, q21.2, q22, q23, q24]
    exact i3
theorem sC_end0 {Q : Int32 → St → Prop} (hρ : Ok ρ) (hF : ∀ k ∈ ([17] : List Nat), gF g k) (hW : WF a) (hI : IB a S) {x1 : Int32} (h1 : ¬ vp_in x1 (tL a + 1)) (h : Q (-1) S) : CALLi g (d + 3) mX11_end [.ref 16, .int x1] ρ ρ S Q := by
  have hl := hW.le
  refine eX11_end hρ hF ?_
  rw [hI.1]
  split
  · exact h
  · split
    · rename_i q1 q2
      rw [fa_lt] at q1
      rw [fa_le, nI_toInt (by omega)] at q2
      have z : (0 : Int32).toInt = 0 := rfl
      exact absurd (vp_in_iff.mpr ⟨by omega, by push_cast; omega⟩) h1
    · exact h
theorem sM_end1 {Q : Int32 → St → Prop} (hρ : Ok ρ) (hF : ∀ k ∈ ([80] : List Nat), gF g k) (hW : WF a) (hI : IM a S) {x1 : Int32} (h1 : vp_in x1 (tL a + 1)) (h : ∀ S', IM (endA a x1.toNatClampNeg) S' → Fr (fun k => k = 80) S S' → Q x1 S') : CALLi g (d + 1) mX12_end [.ref 80, .int x1] ρ ρ S Q := by
  have hl := hW.le
  have c := vin_cl h1
  have e := vin_eq h1 (by omega)
  refine eX12_end hρ hF (sM_in hρ ?_)
  rw [hI.1, if_pos ((in64b (by omega)).mpr h1), if_neg (by decide)]
  have f : Fr (fun k => k = 80) S (setI S 80 4 x1) := Fr.setI S _ _ rfl
  refine h _ ?_ f
  obtain ⟨i1, i2, i3, i4, i5⟩ := hI
  have q81 := (f 81 (by decide)).1
  have q83 := (f 83 (by decide)).1
  have q84 := (f 84 (by decide)).1
  refine ⟨by rw [setI_at, if_pos ⟨rfl, rfl⟩]; exact e, fun i hi => ?_, ?_, ?_, ?_⟩
  · rw [q84]
    exact i2 i (by have : i < x1.toNatClampNeg := hi; omega)
  · rw [setI_at, if_neg (fun q => absurd q.2 (by decide))]; exact i3
  · rw [setI_at, if_neg (fun q => absurd q.2 (by decide))]; exact i4
  · rw [q81, q83]
    exact i5
theorem sM_end0 {Q : Int32 → St → Prop} (hρ : Ok ρ) (hF : ∀ k ∈ ([80] : List Nat), gF g k) (hW : WF a) (hI : IM a S) {x1 : Int32} (h1 : ¬ vp_in x1 (tL a + 1)) (h : Q (-1) S) : CALLi g (d + 1) mX12_end [.ref 80, .int x1] ρ ρ S Q := by
  have hl := hW.le
  refine eX12_end hρ hF (sM_in hρ ?_)
  rw [hI.1, if_neg (fun z => h1 ((in64b (by omega)).mp z)), if_pos rfl]
  exact h
end T2
