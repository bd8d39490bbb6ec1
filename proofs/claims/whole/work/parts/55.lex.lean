-- TOKENS: where the next one begins, what it is, where it ends, its number
def blk (b : Nat) : Bool := b == 32 || b == 10
def kd (b : Nat) : Nat := if 97 ≤ b ∧ b ≤ 122 then 1 else if 48 ≤ b ∧ b ≤ 57 then 2 else if b = 59 then 3 else 4
def kdA (B : Nat → Nat) (L p : Nat) : Nat := if p < L then kd (B p) else 0
def skp (B : Nat → Nat) : Nat → Nat → Nat
  | 0, p => p
  | n + 1, p => if blk (B p) then skp B n (p + 1) else p
def rnk (B : Nat → Nat) (k : Nat) : Nat → Nat → Nat
  | 0, p => p
  | n + 1, p => if kd (B p) = k then rnk B k n (p + 1) else p
def dval (B : Nat → Nat) : Nat → Nat → Nat → Nat
  | 0, _, v => v
  | n + 1, p, v => dval B n (p + 1) (10 * v + (B p - 48))
def tF (B : Nat → Nat) (L p : Nat) : Nat := skp B (L - p) p
def tK (B : Nat → Nat) (L p : Nat) : Nat := kdA B L (tF B L p)
def tT (B : Nat → Nat) (L p : Nat) : Nat := if tK B L p = 1 ∨ tK B L p = 2 then rnk B (tK B L p) (L - tF B L p) (tF B L p) else if tK B L p = 0 then tF B L p else tF B L p + 1
def tV (B : Nat → Nat) (L p : Nat) : Nat := dval B (tT B L p - tF B L p) (tF B L p) 0
theorem skp_le (B : Nat → Nat) : ∀ n p, p ≤ skp B n p ∧ skp B n p ≤ p + n
  | 0, p => ⟨Nat.le_refl _, Nat.le_refl _⟩
  | n + 1, p => by
    show p ≤ (if blk (B p) then skp B n (p + 1) else p) ∧ (if blk (B p) then skp B n (p + 1) else p) ≤ p + (n + 1)
    have := skp_le B n (p + 1)
    split <;> omega
theorem rnk_le (B : Nat → Nat) (k : Nat) : ∀ n p, p ≤ rnk B k n p ∧ rnk B k n p ≤ p + n
  | 0, p => ⟨Nat.le_refl _, Nat.le_refl _⟩
  | n + 1, p => by
    show p ≤ (if kd (B p) = k then rnk B k n (p + 1) else p) ∧ (if kd (B p) = k then rnk B k n (p + 1) else p) ≤ p + (n + 1)
    have := rnk_le B k n (p + 1)
    split <;> omega
theorem kd_le (b : Nat) : 1 ≤ kd b ∧ kd b ≤ 4 := by
  unfold kd
  split
  · omega
  · split
    · omega
    · split <;> omega
theorem kdA_le (B : Nat → Nat) (L p : Nat) : kdA B L p ≤ 4 := by
  unfold kdA
  split
  · exact (kd_le _).2
  · omega
theorem tF_le (B : Nat → Nat) {L p : Nat} (h : p ≤ L) : p ≤ tF B L p ∧ tF B L p ≤ L := by
  have := skp_le B (L - p) p
  unfold tF
  omega
theorem tK0 {B : Nat → Nat} {L p : Nat} (h : p ≤ L) : tK B L p = 0 ↔ tF B L p = L := by
  have h1 := tF_le B h
  unfold tK kdA
  split
  · have := (kd_le (B (tF B L p))).1
    omega
  · omega
theorem tT_le (B : Nat → Nat) {L p : Nat} (h : p ≤ L) : tF B L p ≤ tT B L p ∧ tT B L p ≤ L := by
  have h1 := tF_le B h
  have h0 := tK0 (B := B) h
  unfold tT
  split
  · have := rnk_le B (tK B L p) (L - tF B L p) (tF B L p)
    omega
  · split <;> omega
/-- digits alone between where a number begins and where it ends -/
theorem rnk_all (B : Nat → Nat) (k : Nat) : ∀ n p i, p ≤ i → i < rnk B k n p → kd (B i) = k
  | 0, p, i, h1, h2 => by
    have h2 : i < p := h2
    omega
  | n + 1, p, i, h1, h2 => by
    have h2 : i < (if kd (B p) = k then rnk B k n (p + 1) else p) := h2
    split at h2
    · by_cases e : i = p
      · subst e; assumption
      · exact rnk_all B k n (p + 1) i (by omega) h2
    · omega
theorem kd2 {b : Nat} (h : kd b = 2) : 48 ≤ b ∧ b ≤ 57 := by
  unfold kd at h
  split at h
  · omega
  · split at h
    · assumption
    · split at h <;> omega
/-- the store has changed in one label alone, there in some places alone -/
def Sj (k : Nat) (J : Nat → Prop) (S S' : St) : Prop := Fr (fun a => a = k) S S' ∧ S'.2 = S.2 ∧ ∀ j, ¬ J j → S'.1 k j = S.1 k j
theorem Sj.rf (k : Nat) (J : Nat → Prop) (S : St) : Sj k J S S := ⟨Fr.rf S, rfl, fun _ _ => rfl⟩
theorem Sj.tr {k : Nat} {J : Nat → Prop} {S S1 S2 : St} (h : Sj k J S S1) (h2 : Sj k J S1 S2) : Sj k J S S2 := ⟨h.1.tr h2.1, h2.2.1.trans h.2.1, fun j hj => (h2.2.2 j hj).trans (h.2.2 j hj)⟩
theorem Sj.mono {k : Nat} {J J' : Nat → Prop} {S S' : St} (h : Sj k J S S') (hJ : ∀ j, J j → J' j) : Sj k J' S S' := ⟨h.1, h.2.1, fun j hj => h.2.2 j (fun q => hj (hJ j q))⟩
theorem Sj.set {J : Nat → Prop} (S : St) (k : Nat) {j : Nat} (v : Int32) (hj : J j) : Sj k J S (setI S k j v) := ⟨Fr.setI S _ _ rfl, rfl, fun i hi => by rw [setI_at, if_neg (fun q => hi (by rw [q.2]; exact hj))]⟩
/-- the bytes that are read -/
def Byt (kl ks kb : Nat) (B : Nat → Nat) (L : Nat) (S : St) : Prop := S.1 kl ks = nI L ∧ (∀ i, i < L → S.1 kb i = nI (B i)) ∧ (∀ i, i < L → B i < 256) ∧ L ≤ 300
theorem cap_step {c n d : Nat} : (if 10 * (min n c) + d < c then 10 * (min n c) + d else c) = min (10 * n + d) c := by
  split <;> omega
section L1
variable {g : GX} {d : Nat} {ρ : Rs} {B : Nat → Nat} {L : Nat}
theorem Byt.j {k kb : Nat} {ks : Nat} {J : Nat → Prop} {S S' : St} (h : Byt 17 1 18 B L S) (q : Sj 19 J S S') : Byt 17 1 18 B L S' := by
  unfold Byt
  rw [(q.1 17 (by decide)).1, (q.1 18 (by decide)).1]
  exact h
theorem sC_byteAt {S : St} {Q : Int32 → St → Prop} (hρ : Ok ρ) (hB : Byt 17 1 18 B L S) {i : Nat} (hi : i < L) (h : Q (nI (B i)) S) : CALLi g (d + 3) mX10_byteAt [.ref 17, .int (nI i)] ρ ρ S Q := by
  have h3 := hB.2.2.2
  refine eX10_byteAt hρ ?_
  rw [hB.1, if_neg (nI_pos (by omega)), if_neg (nI_ge hi (by omega)), if_neg (show ¬ (300 : Int32) ≤ nI i from nI_ge (b := 300) (by omega) (by omega)), nI_clamp (by omega), hB.2.1 i hi]
  exact ⟨vp_in_nI (by omega) (by omega), h⟩
theorem lt_n {b c : Nat} (hb : b < 2 ^ 31) (hc : c < 2 ^ 31) : nI b < nI c ↔ b < c := nI_ltI hb hc
theorem sC_kindOf {S : St} {Q : Int32 → St → Prop} (hρ : Ok ρ) (hB : Byt 17 1 18 B L S) {i : Nat} (hi : i ≤ L) (h : Q (nI (kdA B L i)) S) : CALLi g (d + 4) mX8_kindOf [.ref 17, .int (nI i)] ρ ρ S Q := by
  have h3 := hB.2.2.2
  refine eX8_kindOf hρ ?_
  rw [hB.1]
  unfold kdA at h
  by_cases q : i < L
  · rw [if_pos q] at h
    rw [if_pos (nI_lt q (by omega))]
    refine sC_byteAt hρ hB q ?_
    have hb := hB.2.2.1 i q
    generalize B i = b at h hb
    have k30 : ¬ (97 ≤ b ∧ b ≤ 122) → AW g ρ (QI Q) (d + 4) mX8_kindOf 30 [(2, .int (nI b))] [] ρ S := by
      intro hn
      refine eX8_kindOf_30 hρ ?_
      unfold kd at h
      rw [if_neg hn] at h
      have e59 : nI b = 59 ↔ b = 59 := nI_eq (b := 59) (by omega) (by omega)
      by_cases c1 : b < 48
      · rw [if_pos (show nI b < 48 from nI_lt (b := 48) c1 (by omega))]
        rw [if_neg (by omega)] at h
        by_cases c2 : b = 59
        · rw [if_pos (e59.mpr c2)]; rw [if_pos c2] at h; exact h
        · rw [if_neg (fun z => c2 (e59.mp z))]; rw [if_neg c2] at h; exact h
      · rw [if_neg (show ¬ nI b < 48 from nI_nlt (b := 48) (by omega) (by omega))]
        by_cases c3 : 57 < b
        · rw [if_pos (show (57 : Int32) < nI b from nI_lt (a := 57) c3 (by omega))]
          rw [if_neg (by omega)] at h
          by_cases c2 : b = 59
          · rw [if_pos (e59.mpr c2)]; rw [if_pos c2] at h; exact h
          · rw [if_neg (fun z => c2 (e59.mp z))]; rw [if_neg c2] at h; exact h
        · rw [if_neg (show ¬ (57 : Int32) < nI b from nI_nlt (a := 57) (by omega) (by omega))]
          rw [if_pos (by omega)] at h
          exact h
    by_cases c1 : b < 97
    · rw [if_pos (show nI b < 97 from nI_lt (b := 97) c1 (by omega))]
      exact k30 (by omega)
    · rw [if_neg (show ¬ nI b < 97 from nI_nlt (b := 97) (by omega) (by omega))]
      by_cases c2 : 122 < b
      · rw [if_pos (show (122 : Int32) < nI b from nI_lt (a := 122) c2 (by omega))]
        exact k30 (by omega)
      · rw [if_neg (show ¬ (122 : Int32) < nI b from nI_nlt (a := 122) (by omega) (by omega))]
        unfold kd at h
        rw [if_pos (by omega)] at h
        exact h
  · rw [if_neg q] at h
    rw [if_neg (nI_nlt (by omega) (by omega))]
    exact h
theorem sC_isBlank {S : St} {Q : Int32 → St → Prop} (hρ : Ok ρ) {b : Nat} (hb : b < 256) (h : Q (if blk b then 1 else 0) S) : CALLi g (d + 3) mX8_isBlank [.int (nI b)] ρ ρ S Q := by
  refine eX8_isBlank hρ ?_
  have e1 : nI b = 32 ↔ b = 32 := nI_eq (b := 32) (by omega) (by omega)
  have e2 : nI b = 10 ↔ b = 10 := nI_eq (b := 10) (by omega) (by omega)
  unfold blk at h
  by_cases c1 : b = 32
  · rw [if_pos (e1.mpr c1)]; simp [c1] at h; exact h
  · rw [if_neg (fun z => c1 (e1.mp z))]
    by_cases c2 : b = 10
    · rw [if_pos (e2.mpr c2)]; simp [c2] at h; exact h
    · rw [if_neg (fun z => c2 (e2.mp z))]; simp [c1, c2] at h; exact h
theorem sC_numberIn {S : St} {Q : Int32 → St → Prop} (hρ : Ok ρ) (hB : Byt 17 1 18 B L S) {f t : Nat} (hft : f ≤ t) (ht : t ≤ L) (hd : ∀ i, f ≤ i → i < t → kd (B i) = 2) (e1 : S.1 19 9 = nI f) (e2 : S.1 19 10 = nI t) (h : Q (nI (min (dval B (t - f) f 0) 1000)) S) : CALLi g (d + 4) mX8_numberIn [.ref 19, .ref 17] ρ ρ S Q := by
  have h3 := hB.2.2.2
  refine eX8_numberIn hρ ?_
  have key : ∀ n p v, p + n = t → f ≤ p → (n = t - p) → dval B n p v = dval B (t - f) f 0 → AW g ρ (QI Q) (d + 4) mX8_numberIn 7 [(0, .ref 19), (1, .ref 17), (2, .int (nI (min v 1000))), (3, .int (nI p))] [] ρ S := by
    intro n
    induction n with
    | zero =>
      intro p v hp hf hn hv
      refine eX8_numberIn_7 hρ ?_
      rw [e2, if_pos (nI_le (by omega) (by omega))]
      have hv : v = dval B (t - f) f 0 := hv
      rw [hv]
      exact h
    | succ n ih =>
      intro p v hp hf hn hv
      refine eX8_numberIn_7 hρ ?_
      rw [e2, if_neg (nI_ge (by omega) (by omega))]
      refine sC_byteAt hρ hB (by omega) ?_
      have hk := kd2 (hd p hf (by omega))
      have ee : ((10 : Int32) * nI (min v 1000) + nI (B p)) - 48 = nI (10 * min v 1000 + (B p - 48)) := by
        show (nI 10 * nI (min v 1000) + nI (B p)) - nI 48 = _
        rw [pk_mul, nI_add, pk_sub (by omega)]
        congr 1
        omega
      have hm : min v 1000 ≤ 1000 := Nat.min_le_right _ _
      have ec : (if nI (10 * min v 1000 + (B p - 48)) < (1000 : Int32) then nI (10 * min v 1000 + (B p - 48)) else 1000) = nI (min (10 * v + (B p - 48)) 1000) := by
        rw [← cap_step]
        have el : nI (10 * min v 1000 + (B p - 48)) < (1000 : Int32) ↔ 10 * min v 1000 + (B p - 48) < 1000 := nI_ltI (b := 1000) (by omega) (by omega)
        by_cases c : 10 * min v 1000 + (B p - 48) < 1000
        · rw [if_pos (el.mpr c), if_pos c]
        · rw [if_neg (fun z => c (el.mp z)), if_neg c]; rfl
      rw [ee, ec, nI_1 p]
      exact ih (p + 1) _ (by omega) (by omega) (by omega) hv
  have := key (t - f) f 0 (by omega) (Nat.le_refl _) rfl rfl
  rw [e1]
  exact this
/-- what the reader holds of the token that begins behind p -/
def LexC (B : Nat → Nat) (L p : Nat) (S : St) : Prop := S.1 19 8 = nI (tK B L p) ∧ S.1 19 9 = nI (tF B L p) ∧ S.1 19 10 = nI (tT B L p) ∧ (tK B L p = 2 → S.1 19 11 = nI (min (tV B L p) 1000))
theorem sC_advance {S : St} {Q : St → Prop} (hρ : Ok ρ) (hF : ∀ k ∈ ([19] : List Nat), gF g k) (hB : Byt 17 1 18 B L S) {p : Nat} (hp : p ≤ L) (e0 : S.1 19 10 = nI p) (h : ∀ S', LexC B L p S' → Sj 19 (fun j => 8 ≤ j ∧ j ≤ 11) S S' → Q S') : CALLv g (d + 5) mX8_advance [.ref 19, .ref 17] ρ ρ S Q := by
  have h3 := hB.2.2.2
  have hf := tF_le B hp
  have hk0 := tK0 (B := B) hp
  refine eX8_advance hρ hF ?_
  -- the number, at the end
  have at121 : ∀ S1, Sj 19 (fun j => 8 ≤ j ∧ j ≤ 11) S S1 → (tK B L p = 1 ∨ tK B L p = 2) → S1.1 19 8 = nI (tK B L p) → S1.1 19 9 = nI (tF B L p) → S1.1 19 10 = nI (tT B L p) → AW g ρ (QV Q) (d + 5) mX8_advance 121 [(0, .ref 19), (1, .ref 17)] [] ρ S1 := by
    intro S1 j1 hk q8 q9 q10
    refine eX8_advance_121 hρ hF ?_
    rw [q8]
    rcases hk with hk | hk
    · rw [if_neg (by rw [hk]; decide)]
      refine h _ ⟨?_, ?_, ?_, fun z => by omega⟩ (j1.tr (Sj.set S1 19 _ (by decide)))
      · rw [setI_at, if_neg (fun z => absurd z.2 (by decide))]; exact q8
      · rw [setI_at, if_neg (fun z => absurd z.2 (by decide))]; exact q9
      · rw [setI_at, if_neg (fun z => absurd z.2 (by decide))]; exact q10
    · rw [if_pos (by rw [hk]; rfl)]
      have ht := tT_le B hp
      refine sC_numberIn hρ (hB.j (kb := 0) (k := 0) (ks := 0) j1) ht.1 ht.2 (fun i i1 i2 => ?_) q9 q10 ?_
      · refine rnk_all B 2 (L - tF B L p) (tF B L p) i i1 ?_
        unfold tT at i2
        rw [if_pos (Or.inr hk), hk] at i2
        exact i2
      · refine h _ ⟨?_, ?_, ?_, fun _ => ?_⟩ (j1.tr (Sj.set S1 19 _ (by decide)))
        · rw [setI_at, if_neg (fun z => absurd z.2 (by decide))]; exact q8
        · rw [setI_at, if_neg (fun z => absurd z.2 (by decide))]; exact q9
        · rw [setI_at, if_neg (fun z => absurd z.2 (by decide))]; exact q10
        · rw [setI_at, if_pos ⟨rfl, rfl⟩]; rfl
  -- the run of letters or digits
  have at82 : ∀ n q S1, q + n = L → Sj 19 (fun j => 8 ≤ j ∧ j ≤ 11) S S1 → (tK B L p = 1 ∨ tK B L p = 2) → S1.1 19 8 = nI (tK B L p) → S1.1 19 9 = nI (tF B L p) → S1.1 19 10 = nI q → rnk B (tK B L p) n q = tT B L p → AW g ρ (QV Q) (d + 5) mX8_advance 82 [(0, .ref 19), (1, .ref 17)] [] ρ S1 := by
    intro n
    induction n with
    | zero =>
      intro q S1 hq j1 hk q8 q9 q10 hr
      have hr : q = tT B L p := hr
      refine eX8_advance_82 hρ hF ?_
      rw [q10, (hB.j (kb := 0) (k := 0) (ks := 0) j1).1, if_pos (nI_le (by omega) (by omega))]
      exact at121 S1 j1 hk q8 q9 (by rw [q10, hr])
    | succ n ih =>
      intro q S1 hq j1 hk q8 q9 q10 hr
      have hB1 := hB.j (kb := 0) (k := 0) (ks := 0) j1
      refine eX8_advance_82 hρ hF ?_
      rw [q10, hB1.1, if_neg (nI_ge (by omega) (by omega))]
      refine sC_kindOf hρ hB1 (by omega) ?_
      have hr : (if kd (B q) = tK B L p then rnk B (tK B L p) n (q + 1) else q) = tT B L p := hr
      have ek : kdA B L q = kd (B q) := if_pos (by omega)
      have b1 := kdA_le B L q
      have b2 := kdA_le B L (tF B L p)
      have eq : nI (kdA B L q) = S1.1 19 8 ↔ kd (B q) = tK B L p := by
        rw [q8, ← ek]
        exact nI_eq (by omega) (by unfold tK; omega)
      by_cases c : kd (B q) = tK B L p
      · rw [if_pos (eq.mpr c)]
        rw [if_pos c] at hr
        refine ih (q + 1) _ (by omega) (j1.tr (Sj.set S1 19 _ (by decide))) hk ?_ ?_ ?_ hr
        · rw [setI_at, if_neg (fun z => absurd z.2 (by decide))]; exact q8
        · rw [setI_at, if_neg (fun z => absurd z.2 (by decide))]; exact q9
        · rw [setI_at, if_pos ⟨rfl, rfl⟩, q10, nI_1]
      · rw [if_neg (fun z => c (eq.mp z))]
        rw [if_neg c] at hr
        exact at121 S1 j1 hk q8 q9 (by rw [q10, hr])
  -- what it is
  have at46 : ∀ S1, Sj 19 (fun j => 8 ≤ j ∧ j ≤ 11) S S1 → S1.1 19 9 = nI (tF B L p) → AW g ρ (QV Q) (d + 5) mX8_advance 46 [(0, .ref 19), (1, .ref 17)] [] ρ S1 := by
    intro S1 j1 q9
    have j2 := j1.tr (Sj.set (J := fun j => 8 ≤ j ∧ j ≤ 11) S1 19 (j := 10) (S1.1 19 9) (by decide))
    have hB2 := hB.j (kb := 0) (k := 0) (ks := 0) j2
    refine eX8_advance_46 hρ hF ?_
    rw [q9] at hB2 j2 ⊢
    refine sC_kindOf hρ hB2 hf.2 ?_
    have b2 := kdA_le B L (tF B L p)
    have ed : kdA B L (tF B L p) = tK B L p := rfl
    rw [ed]
    have bk : tK B L p ≤ 4 := b2
    have i1 : nI (tK B L p) = 1 ↔ tK B L p = 1 := nI_eq (b := 1) (by omega) (by omega)
    have i2 : nI (tK B L p) = 2 ↔ tK B L p = 2 := nI_eq (b := 2) (by omega) (by omega)
    have i0 : nI (tK B L p) = 0 ↔ tK B L p = 0 := nI_eq (b := 0) (by omega) (by omega)
    have j3 := j2.tr (Sj.set (J := fun j => 8 ≤ j ∧ j ≤ 11) (setI S1 19 10 (nI (tF B L p))) 19 (j := 8) (nI (tK B L p)) (by decide))
    have r8 : (setI (setI S1 19 10 (nI (tF B L p))) 19 8 (nI (tK B L p))).1 19 8 = nI (tK B L p) := by rw [setI_at, if_pos ⟨rfl, rfl⟩]
    have r9 : (setI (setI S1 19 10 (nI (tF B L p))) 19 8 (nI (tK B L p))).1 19 9 = nI (tF B L p) := by
      rw [setI_at, if_neg (fun z => absurd z.2 (by decide)), setI_at, if_neg (fun z => absurd z.2 (by decide))]; exact q9
    have r10 : (setI (setI S1 19 10 (nI (tF B L p))) 19 8 (nI (tK B L p))).1 19 10 = nI (tF B L p) := by
      rw [setI_at, if_neg (fun z => absurd z.2 (by decide)), setI_at, if_pos ⟨rfl, rfl⟩]
    by_cases c1 : tK B L p = 1
    · rw [if_pos (i1.mpr c1)]
      exact at82 (L - tF B L p) (tF B L p) _ (by omega) j3 (Or.inl c1) r8 r9 r10 (by unfold tT; rw [if_pos (Or.inl c1)])
    · rw [if_neg (fun z => c1 (i1.mp z))]
      by_cases c2 : tK B L p = 2
      · rw [if_pos (i2.mpr c2)]
        exact at82 (L - tF B L p) (tF B L p) _ (by omega) j3 (Or.inr c2) r8 r9 r10 (by unfold tT; rw [if_pos (Or.inr c2)])
      · rw [if_neg (fun z => c2 (i2.mp z))]
        by_cases c0 : tK B L p = 0
        · rw [if_pos (i0.mpr c0)]
          refine h _ ⟨r8, r9, ?_, fun z => by omega⟩ j3
          rw [r10]; unfold tT; rw [if_neg (by omega), if_pos c0]
        · rw [if_neg (fun z => c0 (i0.mp z))]
          refine h _ ⟨?_, ?_, ?_, fun z => by omega⟩ (j3.tr (Sj.set _ 19 _ (by decide)))
          · rw [setI_at, if_neg (fun z => absurd z.2 (by decide))]; exact r8
          · rw [setI_at, if_neg (fun z => absurd z.2 (by decide))]; exact r9
          · have r10b : (setI S1 19 10 (nI (tF B L p))).1 19 10 = nI (tF B L p) := by rw [setI_at, if_pos ⟨rfl, rfl⟩]
            rw [setI_at, if_pos ⟨rfl, rfl⟩, r10b, nI_1]; unfold tT; rw [if_neg (by omega), if_neg c0]
  -- blanks
  have at8 : ∀ n q S1, q + n = L → Sj 19 (fun j => 8 ≤ j ∧ j ≤ 11) S S1 → S1.1 19 9 = nI q → skp B n q = tF B L p → AW g ρ (QV Q) (d + 5) mX8_advance 8 [(0, .ref 19), (1, .ref 17)] [] ρ S1 := by
    intro n
    induction n with
    | zero =>
      intro q S1 hq j1 q9 hs
      have hs : q = tF B L p := hs
      refine eX8_advance_8 hρ hF ?_
      rw [q9, (hB.j (kb := 0) (k := 0) (ks := 0) j1).1, if_pos (nI_le (by omega) (by omega))]
      exact at46 S1 j1 (by rw [q9, hs])
    | succ n ih =>
      intro q S1 hq j1 q9 hs
      have hB1 := hB.j (kb := 0) (k := 0) (ks := 0) j1
      refine eX8_advance_8 hρ hF ?_
      rw [q9, hB1.1, if_neg (nI_ge (by omega) (by omega))]
      refine sC_byteAt hρ hB1 (by omega) (sC_isBlank hρ (hB.2.2.1 q (by omega)) ?_)
      have hs : (if blk (B q) then skp B n (q + 1) else q) = tF B L p := hs
      cases c : blk (B q) with
      | true =>
        rw [c, if_pos rfl] at hs
        rw [if_pos rfl, if_neg (by decide)]
        refine ih (q + 1) _ (by omega) (j1.tr (Sj.set S1 19 _ (by decide))) ?_ hs
        rw [setI_at, if_pos ⟨rfl, rfl⟩, q9, nI_1]
      | false =>
        rw [c, if_neg (by decide)] at hs
        rw [if_pos (show (if false = true then (1:Int32) else 0) = 0 from rfl)]
        exact at46 S1 j1 (by rw [q9, hs])
  refine at8 (L - p) p _ (by omega) (Sj.set S 19 _ (by decide)) ?_ rfl
  rw [setI_at, if_pos ⟨rfl, rfl⟩, e0]
end L1
