-- THE CLASS READS THE TEXT
def hB (h : Nat → Nat → Bool) : Nat := bsum (fun k => h (k / 4) (k % 4)) 16
theorem hB_lt (h : Nat → Nat → Bool) : hB h < 65536 := bsum_lt _ 16
theorem hB_bit {h : Nat → Nat → Bool} {y x : Nat} (hy : y < 4) (hx : x < 4) : (hB h).testBit (4 * y + x) = h y x := by
  unfold hB
  rw [bsum_bit, show (4 * y + x) / 4 = y by omega, show (4 * y + x) % 4 = x by omega]
  simp [show 4 * y + x < 16 by omega]
theorem bsum_or {f f' : Nat → Bool} {n k : Nat} (hk : k < n) (h : ∀ i, f' i = (f i || decide (i = k))) : bsum f' n = bsum f n ||| 2 ^ k := by
  apply Nat.eq_of_testBit_eq
  intro i
  rw [Nat.testBit_or, bsum_bit, bsum_bit, Nat.testBit_two_pow, h i]
  by_cases c : i = k
  · subst c; simp [hk]
  · simp [c, Ne.symm c]
theorem hB_upd {h : Nat → Nat → Bool} {y x : Nat} (hy : y < 4) (hx : x < 4) : hB (udt h y x true) = hB h ||| 2 ^ (4 * y + x) := by
  refine bsum_or (by omega) (fun i => ?_)
  unfold udt
  by_cases c : i / 4 = y ∧ i % 4 = x
  · rw [if_pos c]; simp [show i = 4 * y + x by omega]
  · rw [if_neg c]; simp [show ¬ i = 4 * y + x by omega]
theorem shl1 {k : Nat} (hk : k < 31) : (1 : Int32) <<< (nI k &&& 31) = nI (2 ^ k) := by
  have : ∀ k, k < 31 → (1 : Int32) <<< (nI k &&& 31) = nI (2 ^ k) := by decide +kernel
  exact this k hk
def RdC (R C ln : Nat) (h : Nat → Nat → Bool) (T : Nat) (t : Nat → Nat → Nat) (S : St) : Prop :=
  S.1 19 0 = 0 ∧ S.1 19 1 = -1 ∧ S.1 19 2 = nI R ∧ S.1 19 3 = nI C ∧ S.1 19 4 = nI ln ∧ S.1 19 5 = nI (hB h) ∧ S.1 19 7 = nI T ∧ ∀ k, k < 16 → S.1 20 k = nI (t (k / 4) (k % 4))
def F20 (k : Nat) : Prop := k = 19 ∨ k = 20
def CtC (B : Nat → Nat) (L : Nat) (S0 : St) (p R C ln : Nat) (h : Nat → Nat → Bool) (T : Nat) (t : Nat → Nat → Nat) (S : St) : Prop := LexC B L p S ∧ RdC R C ln h T t S ∧ Fr F20 S0 S ∧ p ≤ L
def FlC (e : PF) (S0 S : St) : Prop := S.1 19 0 = nI e.1 ∧ S.1 19 1 = nI e.2 ∧ Fr F20 S0 S
section R1
variable {g : GX} {d : Nat} {ρ : Rs} {B : Nat → Nat} {L : Nat} {S0 S : St} {p R C ln : Nat} {h : Nat → Nat → Bool} {T : Nat} {t : Nat → Nat → Nat}
theorem Byt.f (hB : Byt 17 1 18 B L S0) (q : Fr F20 S0 S) : Byt 17 1 18 B L S := by
  unfold Byt
  rw [(q 17 (by unfold F20; omega)).1, (q 18 (by unfold F20; omega)).1]
  exact hB
theorem sC_adv {Q : St → Prop} (hρ : Ok ρ) (hF : ∀ k ∈ ([19] : List Nat), gF g k) (hB : Byt 17 1 18 B L S0) (hc : CtC B L S0 p R C ln h T t S) (k : ∀ S', CtC B L S0 (tT B L p) R C ln h T t S' → Q S') : CALLv g (d + 5) mX8_advance [.ref 19, .ref 17] ρ ρ S Q := by
  obtain ⟨c1, c2, c3, c4⟩ := hc
  have ht := tT_le B c4
  refine sC_advance hρ hF (hB.f c3) ht.2 c1.2.2.1 (fun S' l j => k S' ⟨l, ?_, ?_, ht.2⟩)
  · obtain ⟨r0, r1, r2, r3, r4, r5, r7, r20⟩ := c2
    refine ⟨?_, ?_, ?_, ?_, ?_, ?_, ?_, ?_⟩
    · rw [j.2.2 0 (by omega)]; exact r0
    · rw [j.2.2 1 (by omega)]; exact r1
    · rw [j.2.2 2 (by omega)]; exact r2
    · rw [j.2.2 3 (by omega)]; exact r3
    · rw [j.2.2 4 (by omega)]; exact r4
    · rw [j.2.2 5 (by omega)]; exact r5
    · rw [j.2.2 7 (by omega)]; exact r7
    · intro k hk
      rw [(j.1 20 (by decide)).1]; exact r20 k hk
  · exact c3.tr (j.1.mono (fun k hk => Or.inl hk))
theorem sC_fail {Q : Int32 → St → Prop} (hρ : Ok ρ) (hF : ∀ k ∈ ([19] : List Nat), gF g k) (hc : CtC B L S0 p R C ln h T t S) {x : Int32} {k : Nat} (hx : x = nI k) (hQ : ∀ S', FlC (k, tF B L p) S0 S' → Q 0 S') : CALLi g (d + 3) mX8_fail [.ref 19, .int x] ρ ρ S Q := by
  subst hx
  refine eX8_fail hρ hF (hQ _ ⟨?_, ?_, ?_⟩)
  · simp [setI_at]
  · rw [setI_at, if_pos ⟨rfl, rfl⟩]; exact hc.1.2.1
  · exact (hc.2.2.1.tr (Fr.setI _ _ _ (Or.inl rfl))).tr (Fr.setI _ _ _ (Or.inl rfl))
theorem sC_passWord {w : Nat} {Q : Int32 → St → Prop} (hρ : Ok ρ) (hF : ∀ k ∈ ([19] : List Nat), gF g k) (hw : w < 5) (hB : Byt 17 1 18 B L S0) (hc : CtC B L S0 p R C ln h T t S) (hE : ∀ e S', pW B L w p = .inl e → FlC e S0 S' → Q 0 S') (hO : ∀ q S', pW B L w p = .inr q → CtC B L S0 q R C ln h T t S' → Q 1 S') : CALLi g (d + 9) mX8_passWord [.ref 19, .ref 17, .ref w] ρ ρ S Q := by
  have hf := tF_le B hc.2.2.2
  have ht := tT_le B hc.2.2.2
  have hk := kdA_le B L (tF B L p)
  have hk : tK B L p ≤ 4 := hk
  refine eX8_passWord hρ hw ?_
  rw [hc.1.1]
  have i1 : nI (tK B L p) = 1 ↔ tK B L p = 1 := nI_eq (b := 1) (by omega) (by omega)
  by_cases c1 : tK B L p = 1
  · rw [if_pos (i1.mpr c1)]
    refine sC_isWord hρ hw (hB.f hc.2.2.1) ht.1 ht.2 hc.1.2.1 hc.1.2.2.1 ?_
    cases c2 : isW B (tF B L p) (tT B L p) w with
    | true =>
      rw [if_pos rfl, if_neg (by decide)]
      exact sC_adv hρ hF hB hc (fun S' q => hO _ S' (by unfold pW; rw [if_pos ⟨c1, c2⟩]) q)
    | false =>
      rw [if_pos (show (if false = true then (1 : Int32) else 0) = 0 from rfl)]
      exact sC_fail hρ hF hc (k := 1) rfl (fun S' q => ⟨Or.inl rfl, hE _ S' (by unfold pW; rw [if_neg (by rw [c2]; simp)]) q⟩)
  · rw [if_neg (fun z => c1 (i1.mp z))]
    exact sC_fail hρ hF hc (k := 1) rfl (fun S' q => ⟨Or.inl rfl, hE _ S' (by unfold pW; rw [if_neg (fun z => c1 z.1)]) q⟩)
theorem sC_passSign {Q : Int32 → St → Prop} (hρ : Ok ρ) (hF : ∀ k ∈ ([19] : List Nat), gF g k) (hB : Byt 17 1 18 B L S0) (hc : CtC B L S0 p R C ln h T t S) (hE : ∀ e S', pS B L p = .inl e → FlC e S0 S' → Q 0 S') (hO : ∀ q S', pS B L p = .inr q → CtC B L S0 q R C (ln + 1) h T t S' → Q 1 S') : CALLi g (d + 6) mX8_passSign [.ref 19, .ref 17] ρ ρ S Q := by
  have hk := kdA_le B L (tF B L p)
  have hk : tK B L p ≤ 4 := hk
  refine eX8_passSign hρ hF ?_
  rw [hc.1.1]
  have i1 : nI (tK B L p) = 3 ↔ tK B L p = 3 := nI_eq (b := 3) (by omega) (by omega)
  by_cases c1 : tK B L p = 3
  · rw [if_pos (i1.mpr c1)]
    obtain ⟨⟨l1, l2, l3, l4⟩, ⟨r0, r1, r2, r3, r4, r5, r7, r20⟩, c3, c4⟩ := hc
    refine sC_adv hρ hF hB (p := p) (R := R) (C := C) (ln := ln + 1) (h := h) (T := T) (t := t) ⟨⟨?_, ?_, ?_, ?_⟩, ⟨?_, ?_, ?_, ?_, ?_, ?_, ?_, ?_⟩, c3.tr (Fr.setI _ _ _ (Or.inl rfl)), c4⟩ (fun S' q => hO _ S' (by unfold pS; rw [if_pos c1]) q)
    · simp [setI_at, l1]
    · simp [setI_at, l2]
    · simp [setI_at, l3]
    · intro z; omega
    · simp [setI_at, r0]
    · simp [setI_at, r1]
    · simp [setI_at, r2]
    · simp [setI_at, r3]
    · rw [setI_at, if_pos ⟨rfl, rfl⟩, r4, nI_1]
    · simp [setI_at, r5]
    · simp [setI_at, r7]
    · intro k hk; rw [setI_at, if_neg (fun z => absurd z.1 (by decide))]; exact r20 k hk
  · rw [if_neg (fun z => c1 (i1.mp z))]
    exact sC_fail hρ hF hc (k := 1) rfl (fun S' q => ⟨Or.inl rfl, hE _ S' (by unfold pS; rw [if_neg c1]) q⟩)
theorem sC_isNumber {Q : Int32 → St → Prop} (hρ : Ok ρ) (hF : ∀ k ∈ ([19] : List Nat), gF g k) (hc : CtC B L S0 p R C ln h T t S) {x1 x2 : Int32} {lo hi : Nat} (e1 : x1 = nI lo) (e2 : x2 = nI hi) (hl : lo < 1000) (hh : hi < 1000) (hE : ∀ e S', pN B L lo hi p = .inl e → FlC e S0 S' → Q 0 S') (hO : ∀ q : Nat × Nat, pN B L lo hi p = .inr q → S.1 19 11 = nI q.1 → q.2 = tT B L p → Q 1 S) : CALLi g (d + 4) mX8_isNumber [.ref 19, .int x1, .int x2] ρ ρ S Q := by
  subst e1 e2
  have hk := kdA_le B L (tF B L p)
  have hk : tK B L p ≤ 4 := hk
  refine eX8_isNumber hρ ?_
  rw [hc.1.1]
  have i1 : nI (tK B L p) = 2 ↔ tK B L p = 2 := nI_eq (b := 2) (by omega) (by omega)
  by_cases c1 : tK B L p = 2
  · rw [if_pos (i1.mpr c1), hc.1.2.2.2 c1]
    have hm : min (tV B L p) 1000 ≤ 1000 := Nat.min_le_right _ _
    by_cases c2 : tV B L p < lo
    · rw [if_pos (nI_lt (by omega) (by omega))]
      exact sC_fail hρ hF hc (k := 2) rfl (fun S' q => by rw [if_pos rfl]; exact hE _ S' (by unfold pN; rw [if_pos c1, if_neg (by omega)]) q)
    · rw [if_neg (nI_nlt (by omega) (by omega))]
      by_cases c3 : tV B L p ≤ hi
      · rw [if_pos (nI_le (by omega) (by omega))]
        exact hO (tV B L p, tT B L p) (by unfold pN; rw [if_pos c1, if_pos (by omega)]) (by rw [hc.1.2.2.2 c1]; congr 1; show _ = tV B L p; omega) rfl
      · rw [if_neg (nI_ge (by omega) (by omega))]
        exact sC_fail hρ hF hc (k := 2) rfl (fun S' q => by rw [if_pos rfl]; exact hE _ S' (by unfold pN; rw [if_pos c1, if_neg (by omega)]) q)
  · rw [if_neg (fun z => c1 (i1.mp z))]
    exact sC_fail hρ hF hc (k := 1) rfl (fun S' q => ⟨Or.inl rfl, hE _ S' (by unfold pN; rw [if_neg c1]) q⟩)
end R1
