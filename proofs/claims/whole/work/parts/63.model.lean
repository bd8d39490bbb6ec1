-- THE MODEL READS THE TEXT
def hm (R C : Nat) (h : Nat → Nat → Bool) : Nat := bsum (fun k => h (k / C) (k % C)) (R * C)
def F81 (k : Nat) : Prop := k = 80 ∨ k = 81
def RdM (R C ln : Nat) (h : Nat → Nat → Bool) (T : Nat) (t : Nat → Nat → Nat) (S : St) : Prop :=
  S.1 80 11 = nI T ∧ S.1 81 0 = nI R ∧ S.1 81 1 = nI C ∧ S.1 81 2 = nI (hm R C h) ∧ S.1 81 3 = nI ln ∧ S.1 81 4 = 0 ∧ ∀ k, k < 16 → S.1 81 (5 + k) = nI (flt C t k)
def CtM (B : Nat → Nat) (L : Nat) (S0 : St) (p R C ln : Nat) (h : Nat → Nat → Bool) (T : Nat) (t : Nat → Nat → Nat) (S : St) : Prop := LexM B L p S ∧ RdM R C ln h T t S ∧ (Fr F81 S0 S ∧ Byt 80 4 84 B L S ∧ S.1 80 12 = 0) ∧ p ≤ L
def BdM (e : PF) (S0 S : St) : Prop := S.1 80 12 = 1 ∧ S.1 80 5 = nI e.1 ∧ S.1 80 6 = nI e.2 ∧ Fr F81 S0 S
section M2
variable {g : GX} {d : Nat} {ρ : Rs} {B : Nat → Nat} {L : Nat} {S0 S : St} {p R C ln : Nat} {h : Nat → Nat → Bool} {T : Nat} {t : Nat → Nat → Nat}
theorem BdM.ne {e : PF} (hb : BdM e S0 S) : ¬ S.1 80 12 = 0 := by rw [hb.1]; decide
theorem BdM.set {e : PF} (hb : BdM e S0 S) (j : Nat) (v : Int32) : BdM e S0 (setI S 81 j v) := by
  refine ⟨?_, ?_, ?_, hb.2.2.2.tr (Fr.setI _ _ _ (Or.inr rfl))⟩
  · rw [setI_ne _ _ _ (by decide)]; exact hb.1
  · rw [setI_ne _ _ _ (by decide)]; exact hb.2.1
  · rw [setI_ne _ _ _ (by decide)]; exact hb.2.2.1
theorem sM_faultsB {Q : St → Prop} (hρ : Ok ρ) (hF : ∀ k ∈ ([80] : List Nat), gF g k) {x : Int32} (hb : ¬ S.1 80 12 = 0) (h : Q S) : CALLv g d mX12_faults [.ref 80, .int x] ρ ρ S Q := by
  refine eX12_faults hρ hF ?_
  rw [if_neg hb]
  exact h
theorem sM_passesB {Q : St → Prop} (hρ : Ok ρ) (hF : ∀ k ∈ ([80] : List Nat), gF g k) {x : Int32} (hb : ¬ S.1 80 12 = 0) (h : Q S) : CALLv g (d + 1) mX12_passes [.ref 80, .int x] ρ ρ S Q := by
  refine eX12_passes hρ ?_
  by_cases c : x = 0
  · rw [if_pos c]
    refine sM_faultsB hρ hF hb ?_
    rw [if_neg hb]; exact h
  · rw [if_neg c, if_neg hb]; exact h
theorem sM_readsB {Q : Int32 → St → Prop} (hρ : Ok ρ) (hF : ∀ k ∈ ([80] : List Nat), gF g k) {x y : Int32} (hb : ¬ S.1 80 12 = 0) (h : ∀ v, Q v S) : CALLi g (d + 2) mX12_reads [.ref 80, .int x, .int y] ρ ρ S Q := by
  refine eX12_reads hρ ?_
  by_cases c : S.1 80 9 = 2
  · rw [if_pos c]
    refine sM_in hρ ?_
    by_cases c2 : x.toInt64 ≤ (S.1 80 10).toInt64 ∧ (S.1 80 10).toInt64 ≤ y.toInt64
    · rw [if_pos c2, if_neg (by decide)]
      exact sM_passesB hρ hF hb (h _)
    · rw [if_neg c2, if_pos rfl]
      exact sM_faultsB hρ hF hb (sM_passesB hρ hF hb (h _))
  · rw [if_neg c]
    exact sM_faultsB hρ hF hb (sM_passesB hρ hF hb (h _))
theorem sM_faults {Q : St → Prop} (hρ : Ok ρ) (hF : ∀ k ∈ ([80] : List Nat), gF g k) (hc : CtM B L S0 p R C ln h T t S) {x : Int32} {k : Nat} (hx : x = nI k) (hQ : ∀ S', BdM (k, tF B L p) S0 S' → S'.1 81 = S.1 81 → Q S') : CALLv g d mX12_faults [.ref 80, .int x] ρ ρ S Q := by
  subst hx
  obtain ⟨c1, c2, ⟨c3, c4, c5⟩, c6⟩ := hc
  refine eX12_faults hρ hF ?_
  rw [if_pos c5]
  refine hQ _ ⟨?_, ?_, ?_, ((c3.tr (Fr.setI _ _ _ (Or.inl rfl))).tr (Fr.setI _ _ _ (Or.inl rfl))).tr (Fr.setI _ _ _ (Or.inl rfl))⟩ ?_
  · simp [setI_at]
  · simp [setI_at]
  · rw [setI_at, if_pos ⟨rfl, rfl⟩]; exact c1.2.1
  · rw [setI_ne _ _ _ (by decide), setI_ne _ _ _ (by decide), setI_ne _ _ _ (by decide)]
theorem sM_adv {Q : St → Prop} (hρ : Ok ρ) (hF : ∀ k ∈ ([80] : List Nat), gF g k) (hc : CtM B L S0 p R C ln h T t S) (k : ∀ S', CtM B L S0 (tT B L p) R C ln h T t S' → Q S') : CALLv g (d + 2) mX12_next [.ref 80] ρ ρ S Q := by
  obtain ⟨c1, ⟨r11, r0, r1, r2, r3, r4, r5⟩, ⟨c3, c4, c5⟩, c6⟩ := hc
  have ht := tT_le B c6
  refine sM_next hρ hF c4 ht.2 c1.2.2.1 (fun S' l j => k S' ⟨l, ⟨?_, ?_, ?_, ?_, ?_, ?_, ?_⟩, ⟨c3.tr (j.1.mono (fun k hk => Or.inl hk)), c4.m j (by omega), ?_⟩, ht.2⟩)
  · rw [j.2.2 11 (by omega)]; exact r11
  · rw [(j.1 81 (by decide)).1]; exact r0
  · rw [(j.1 81 (by decide)).1]; exact r1
  · rw [(j.1 81 (by decide)).1]; exact r2
  · rw [(j.1 81 (by decide)).1]; exact r3
  · rw [(j.1 81 (by decide)).1]; exact r4
  · intro k hk; rw [(j.1 81 (by decide)).1]; exact r5 k hk
  · rw [j.2.2 12 (by omega)]; exact c5
theorem sM_passes {Q : St → Prop} (hρ : Ok ρ) (hF : ∀ k ∈ ([80] : List Nat), gF g k) (hc : CtM B L S0 p R C ln h T t S) {x : Int32} (hE : x = 0 → ∀ S', BdM (1, tF B L p) S0 S' → S'.1 81 = S.1 81 → Q S') (hO : x ≠ 0 → ∀ S', CtM B L S0 (tT B L p) R C ln h T t S' → Q S') : CALLv g (d + 3) mX12_passes [.ref 80, .int x] ρ ρ S Q := by
  refine eX12_passes hρ ?_
  by_cases c : x = 0
  · rw [if_pos c]
    refine sM_faults hρ hF hc (k := 1) rfl (fun S' b q => ?_)
    rw [if_neg b.ne]
    exact hE c S' b q
  · rw [if_neg c, if_pos hc.2.2.1.2.2]
    exact sM_adv hρ hF hc (fun S' q => hO c S' q)
theorem sM_reads {Q : Int32 → St → Prop} (hρ : Ok ρ) (hF : ∀ k ∈ ([80] : List Nat), gF g k) (hc : CtM B L S0 p R C ln h T t S) {x y : Int32} {lo hi : Nat} (e1 : x = nI lo) (e2 : y = nI hi) (hl : lo < 1000) (hh : hi < 1000) (hE : ∀ e v S', pN B L lo hi p = .inl e → BdM e S0 S' → S'.1 81 = S.1 81 → Q v S') (hO : ∀ (q : Nat × Nat) S', pN B L lo hi p = .inr q → CtM B L S0 q.2 R C ln h T t S' → Q (nI q.1) S') : CALLi g (d + 4) mX12_reads [.ref 80, .int x, .int y] ρ ρ S Q := by
  subst e1 e2
  have hk := kdA_le B L (tF B L p)
  have hk : tK B L p ≤ 4 := hk
  refine eX12_reads hρ ?_
  have i1 : nI (tK B L p) = 2 ↔ tK B L p = 2 := nI_eq (b := 2) (by omega) (by omega)
  rw [hc.1.1]
  by_cases c1 : tK B L p = 2
  · rw [if_pos (i1.mpr c1)]
    refine sM_in hρ ?_
    have hm : min (tV B L p) 99999 ≤ 99999 := Nat.min_le_right _ _
    rw [hc.1.2.2.2 c1]
    by_cases c2 : lo ≤ tV B L p ∧ tV B L p ≤ hi
    · rw [if_pos ((in64c (by omega) (by omega) (by omega)).mpr (by omega)), if_neg (by decide)]
      have e : min (tV B L p) 99999 = tV B L p := by omega
      rw [e]
      refine sM_passes hρ hF hc (fun z => absurd z (by decide)) (fun _ S' q => ?_)
      exact hO (tV B L p, tT B L p) S' (by unfold pN; rw [if_pos c1, if_pos c2]) q
    · have nc : ¬ ((nI lo).toInt64 ≤ (nI (min (tV B L p) 99999)).toInt64 ∧ (nI (min (tV B L p) 99999)).toInt64 ≤ (nI hi).toInt64) := fun z => by
        have := (in64c (by omega) (by omega) (by omega)).mp z
        omega
      rw [if_neg nc, if_pos rfl]
      refine sM_faults hρ hF hc (k := 2) rfl (fun S' b q => ?_)
      exact sM_passesB hρ hF b.ne (hE _ _ S' (by unfold pN; rw [if_pos c1, if_neg c2]) b q)
  · rw [if_neg (fun z => c1 (i1.mp z))]
    refine sM_faults hρ hF hc (k := 1) rfl (fun S' b q => ?_)
    exact sM_passesB hρ hF b.ne (hE _ _ S' (by unfold pN; rw [if_neg c1]) b q)
/-- a word, looked at -/
theorem sM_word {w : Nat} {Q : Int32 → St → Prop} (hρ : Ok ρ) (hw : w < 5) (hc : CtM B L S0 p R C ln h T t S) (hQ : ∀ v, (v = 0 ∧ pW B L w p = .inl (1, tF B L p) ∨ v = 1 ∧ pW B L w p = .inr (tT B L p)) → Q v S) : CALLi g (d + 5) mX12_isWord [.ref 80, .ref w] ρ ρ S Q := by
  have ht := tT_le B hc.2.2.2
  have hk := kdA_le B L (tF B L p)
  have hk : tK B L p ≤ 4 := hk
  refine sM_isWord hρ hw hc.2.2.1.2.1 ht.1 ht.2 (k := tK B L p) (by omega) hc.1.1 hc.1.2.1 hc.1.2.2.1 ?_
  by_cases c : tK B L p = 1 ∧ isW B (tF B L p) (tT B L p) w = true
  · rw [if_pos c]
    exact hQ 1 (Or.inr ⟨rfl, by unfold pW; rw [if_pos c]⟩)
  · rw [if_neg c]
    exact hQ 0 (Or.inl ⟨rfl, by unfold pW; rw [if_neg c]⟩)
end M2
