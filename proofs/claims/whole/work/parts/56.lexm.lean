-- TOKENS, as the model reads them
theorem in64c {l h b : Nat} (hl : l < 2 ^ 31) (hh : h < 2 ^ 31) (hb : b < 2 ^ 31) : ((nI l).toInt64 ≤ (nI b).toInt64 ∧ (nI b).toInt64 ≤ (nI h).toInt64) ↔ l ≤ b ∧ b ≤ h := by
  rw [fa_le64, fa_le64, Int32.toInt_toInt64, Int32.toInt_toInt64, Int32.toInt_toInt64, nI_toInt hl, nI_toInt hb, nI_toInt hh]
  omega
theorem kd1i {b : Nat} : kd b = 1 ↔ 97 ≤ b ∧ b ≤ 122 := by
  unfold kd
  split
  · omega
  · split
    · omega
    · split <;> omega
theorem kd2i {b : Nat} : kd b = 2 ↔ 48 ≤ b ∧ b ≤ 57 := by
  unfold kd
  split
  · omega
  · split
    · omega
    · split <;> omega
theorem kd3i {b : Nat} : kd b = 3 ↔ b = 59 := by
  unfold kd
  split
  · omega
  · split
    · omega
    · split <;> omega
theorem blki {b : Nat} : blk b = true ↔ b = 32 ∨ b = 10 := by
  unfold blk
  simp
def LexM (B : Nat → Nat) (L p : Nat) (S : St) : Prop := S.1 80 9 = nI (tK B L p) ∧ S.1 80 8 = nI (tF B L p) ∧ S.1 80 7 = nI (tT B L p) ∧ (tK B L p = 2 → S.1 80 10 = nI (min (tV B L p) 99999))
section L2
variable {g : GX} {d : Nat} {ρ : Rs} {B : Nat → Nat} {L : Nat}
theorem Byt.m {J : Nat → Prop} {S S' : St} (h : Byt 80 4 84 B L S) (q : Sj 80 J S S') (hJ : ¬ J 4) : Byt 80 4 84 B L S' := by
  unfold Byt
  rw [q.2.2 4 hJ, (q.1 84 (by decide)).1]
  exact h
theorem sM_isAt {S : St} {Q : Int32 → St → Prop} (hρ : Ok ρ) (hB : Byt 80 4 84 B L S) {q : Nat} (hq : q ≤ L) (e : S.1 80 7 = nI q) {x1 x2 : Int32} {l h : Nat} (e1 : x1 = nI l) (e2 : x2 = nI h) (hl : l < 2 ^ 31) (hh : h < 2 ^ 31) (hy : q < L → l ≤ B q → B q ≤ h → Q 1 S) (hn : ¬ (q < L ∧ l ≤ B q ∧ B q ≤ h) → Q 0 S) : CALLi g (d + 1) mX12_isAt [.ref 80, .int x1, .int x2] ρ ρ S Q := by
  have h3 := hB.2.2.2
  subst e1 e2
  refine eX12_isAt hρ ?_
  rw [hB.1, e]
  by_cases c : q < L
  · rw [if_neg (nI_ge c (by omega)), nI_clamp (by omega), hB.2.1 q c]
    refine ⟨vp_in_nI (by omega) (by omega), sM_in hρ ?_⟩
    have hb := hB.2.2.1 q c
    by_cases c2 : l ≤ B q ∧ B q ≤ h
    · rw [if_pos ((in64c hl hh (by omega)).mpr c2), if_neg (by decide)]
      exact hy c c2.1 c2.2
    · rw [if_neg (fun z => c2 ((in64c hl hh (by omega)).mp z)), if_pos rfl]
      exact hn (fun z => c2 z.2)
  · rw [if_pos (nI_le (by omega) (by omega))]
    exact hn (fun z => c z.1)
theorem sM_next {S : St} {Q : St → Prop} (hρ : Ok ρ) (hF : ∀ k ∈ ([80] : List Nat), gF g k) (hB : Byt 80 4 84 B L S) {p : Nat} (hp : p ≤ L) (e0 : S.1 80 7 = nI p) (h : ∀ S', LexM B L p S' → Sj 80 (fun j => 7 ≤ j ∧ j ≤ 10) S S' → Q S') : CALLv g (d + 2) mX12_next [.ref 80] ρ ρ S Q := by
  have h3 := hB.2.2.2
  have hf := tF_le B hp
  have ht := tT_le B hp
  have hk0 := tK0 (B := B) hp
  refine eX12_next hρ ?_
  have Bm : ∀ {S1}, Sj 80 (fun j => 7 ≤ j ∧ j ≤ 10) S S1 → Byt 80 4 84 B L S1 := fun j => hB.m j (by omega)
  -- letters
  have at83 : ∀ n q S1, q + n = L → Sj 80 (fun j => 7 ≤ j ∧ j ≤ 10) S S1 → tK B L p = 1 → S1.1 80 9 = nI 1 → S1.1 80 8 = nI (tF B L p) → S1.1 80 7 = nI q → rnk B 1 n q = tT B L p → AW g ρ (QV Q) (d + 2) mX12_next 83 [(0, .ref 80)] [] ρ S1 := by
    intro n
    induction n with
    | zero =>
      intro q S1 hq j1 hk q9 q8 q7 hr
      have hr : q = tT B L p := hr
      refine eX12_next_83 hρ hF ?_
      refine sM_isAt hρ (Bm j1) (by omega) q7 (l := 97) (h := 122) rfl rfl (by decide) (by decide) (fun z => by omega) (fun _ => ?_)
      rw [if_pos rfl]
      exact h _ ⟨by rw [q9, hk], q8, by rw [q7, hr], fun z => by omega⟩ j1
    | succ n ih =>
      intro q S1 hq j1 hk q9 q8 q7 hr
      have hr : (if kd (B q) = 1 then rnk B 1 n (q + 1) else q) = tT B L p := hr
      refine eX12_next_83 hρ hF ?_
      refine sM_isAt hρ (Bm j1) (by omega) q7 (l := 97) (h := 122) rfl rfl (by decide) (by decide) (fun _ z1 z2 => ?_) (fun z => ?_)
      · rw [if_neg (by decide)]
        rw [if_pos (kd1i.mpr ⟨z1, z2⟩)] at hr
        refine ih (q + 1) _ (by omega) (j1.tr (Sj.set S1 80 _ (by decide))) hk ?_ ?_ ?_ hr
        · rw [setI_at, if_neg (fun z => absurd z.2 (by decide))]; exact q9
        · rw [setI_at, if_neg (fun z => absurd z.2 (by decide))]; exact q8
        · rw [setI_at, if_pos ⟨rfl, rfl⟩, q7, nI_1]
      · rw [if_pos rfl]
        rw [if_neg (fun y => z ⟨by omega, kd1i.mp y⟩)] at hr
        exact h _ ⟨by rw [q9, hk], q8, by rw [q7, hr], fun z => by omega⟩ j1
  -- digits
  have at123 : ∀ n q v S1, q + n = L → Sj 80 (fun j => 7 ≤ j ∧ j ≤ 10) S S1 → tK B L p = 2 → S1.1 80 9 = nI 2 → S1.1 80 8 = nI (tF B L p) → S1.1 80 7 = nI q → S1.1 80 10 = nI (min v 99999) → rnk B 2 n q = tT B L p → q ≤ tT B L p → dval B (tT B L p - q) q v = tV B L p → AW g ρ (QV Q) (d + 2) mX12_next 123 [(0, .ref 80)] [] ρ S1 := by
    intro n
    induction n with
    | zero =>
      intro q v S1 hq j1 hk q9 q8 q7 q10 hr hl hv
      have hr : q = tT B L p := hr
      rw [← hr, Nat.sub_self] at hv
      have hv : v = tV B L p := hv
      refine eX12_next_123 hρ hF ?_
      refine sM_isAt hρ (Bm j1) (by omega) q7 (l := 48) (h := 57) rfl rfl (by decide) (by decide) (fun z => by omega) (fun _ => ?_)
      rw [if_pos rfl]
      exact h _ ⟨by rw [q9, hk], q8, by rw [q7, hr], fun z => by rw [q10, hv]⟩ j1
    | succ n ih =>
      intro q v S1 hq j1 hk q9 q8 q7 q10 hr hl hv
      have hr : (if kd (B q) = 2 then rnk B 2 n (q + 1) else q) = tT B L p := hr
      refine eX12_next_123 hρ hF ?_
      refine sM_isAt hρ (Bm j1) (by omega) q7 (l := 48) (h := 57) rfl rfl (by decide) (by decide) (fun zl z1 z2 => ?_) (fun z => ?_)
      · rw [if_neg (by decide)]
        rw [if_pos (kd2i.mpr ⟨z1, z2⟩)] at hr
        have hr2 := rnk_le B 2 n (q + 1)
        rw [q7, q10, nI_clamp (by omega), (Bm j1).2.1 q zl]
        refine ⟨vp_in_nI (by omega) (by omega), ?_⟩
        have ee : ((10 : Int32) * nI (min v 99999) + nI (B q)) - 48 = nI (10 * min v 99999 + (B q - 48)) := by
          show (nI 10 * nI (min v 99999) + nI (B q)) - nI 48 = _
          rw [pk_mul, nI_add, pk_sub (by omega)]
          congr 1
          omega
        have hm : min v 99999 ≤ 99999 := Nat.min_le_right _ _
        have ec : (if nI (10 * min v 99999 + (B q - 48)) < (99999 : Int32) then nI (10 * min v 99999 + (B q - 48)) else 99999) = nI (min (10 * v + (B q - 48)) 99999) := by
          rw [← cap_step]
          have el : nI (10 * min v 99999 + (B q - 48)) < (99999 : Int32) ↔ 10 * min v 99999 + (B q - 48) < 99999 := nI_ltI (b := 99999) (by omega) (by omega)
          by_cases c : 10 * min v 99999 + (B q - 48) < 99999
          · rw [if_pos (el.mpr c), if_pos c]
          · rw [if_neg (fun z => c (el.mp z)), if_neg c]; rfl
        rw [ee, ec, nI_1]
        refine ih (q + 1) (10 * v + (B q - 48)) _ (by omega) ((j1.tr (Sj.set S1 80 _ (by decide))).tr (Sj.set _ 80 _ (by decide))) hk ?_ ?_ ?_ ?_ hr (by omega) ?_
        · rw [setI_at, if_neg (fun z => absurd z.2 (by decide)), setI_at, if_neg (fun z => absurd z.2 (by decide))]; exact q9
        · rw [setI_at, if_neg (fun z => absurd z.2 (by decide)), setI_at, if_neg (fun z => absurd z.2 (by decide))]; exact q8
        · rw [setI_at, if_pos ⟨rfl, rfl⟩]
        · rw [setI_at, if_neg (fun z => absurd z.2 (by decide)), setI_at, if_pos ⟨rfl, rfl⟩]
        · rw [show tT B L p - q = (tT B L p - (q + 1)) + 1 by omega] at hv
          exact hv
      · rw [if_pos rfl]
        rw [if_neg (fun y => z ⟨by omega, kd2i.mp y⟩)] at hr
        rw [← hr, Nat.sub_self] at hv
        have hv : v = tV B L p := hv
        exact h _ ⟨by rw [q9, hk], q8, by rw [q7, hr], fun z => by rw [q10, hv]⟩ j1
  -- blanks, and what it is
  have at0 : ∀ n q S1, q + n = L → Sj 80 (fun j => 7 ≤ j ∧ j ≤ 10) S S1 → S1.1 80 7 = nI q → skp B n q = tF B L p → AW g ρ (QV Q) (d + 2) mX12_next 0 [(0, .ref 80)] [] ρ S1 := by
    intro n
    induction n with
    | zero =>
      intro q S1 hq j1 q7 hs
      have hs : q = tF B L p := hs
      refine eX12_next_0 hρ hF ?_
      refine sM_isAt hρ (Bm j1) (by omega) q7 (l := 32) (h := 32) rfl rfl (by decide) (by decide) (fun z => by omega) (fun _ => ?_)
      rw [if_pos rfl]
      refine sM_isAt hρ (Bm j1) (by omega) q7 (l := 10) (h := 10) rfl rfl (by decide) (by decide) (fun z => by omega) (fun _ => ?_)
      rw [if_pos rfl, (Bm j1).1, q7, show q = L by omega, if_pos rfl]
      have k0 : tK B L p = 0 := hk0.mpr (by omega)
      refine h _ ⟨?_, ?_, ?_, fun z => by omega⟩ (((j1.tr (Sj.set S1 80 _ (by decide))).tr (Sj.set _ 80 _ (by decide))).tr (Sj.set _ 80 _ (by decide)))
      · rw [setI_at, if_pos ⟨rfl, rfl⟩, k0]; rfl
      · rw [setI_at, if_neg (fun z => absurd z.2 (by decide)), setI_at, if_neg (fun z => absurd z.2 (by decide)), setI_at, if_pos ⟨rfl, rfl⟩, ← hs, show q = L by omega]
      · rw [setI_at, if_neg (fun z => absurd z.2 (by decide)), setI_at, if_neg (fun z => absurd z.2 (by decide)), setI_at, if_neg (fun z => absurd z.2 (by decide)), q7]
        unfold tT
        rw [if_neg (by omega), if_pos k0, hs]
    | succ n ih =>
      intro q S1 hq j1 q7 hs
      have hs : (if blk (B q) then skp B n (q + 1) else q) = tF B L p := hs
      have stp : blk (B q) = true → AW g ρ (QV Q) (d + 2) mX12_next 0 [(0, .ref 80)] [] ρ (setI S1 80 7 (S1.1 80 7 + 1)) := by
        intro c
        rw [c, if_pos rfl] at hs
        refine ih (q + 1) _ (by omega) (j1.tr (Sj.set S1 80 _ (by decide))) ?_ hs
        rw [setI_at, if_pos ⟨rfl, rfl⟩, q7, nI_1]
      refine eX12_next_0 hρ hF ?_
      refine sM_isAt hρ (Bm j1) (by omega) q7 (l := 32) (h := 32) rfl rfl (by decide) (by decide) (fun z z1 z2 => ?_) (fun y1 => ?_)
      · rw [if_neg (by decide)]
        exact stp (blki.mpr (by omega))
      rw [if_pos rfl]
      refine sM_isAt hρ (Bm j1) (by omega) q7 (l := 10) (h := 10) rfl rfl (by decide) (by decide) (fun z z1 z2 => ?_) (fun y2 => ?_)
      · rw [if_neg (by decide)]
        exact stp (blki.mpr (by omega))
      rw [if_pos rfl, (Bm j1).1, q7, if_neg (fun z => by have := (nI_eq (a := q) (b := L) (by omega) (by omega)).mp z; omega)]
      have nb : ¬ blk (B q) = true := fun z => by
        have := blki.mp z
        omega
      rw [if_neg nb] at hs
      have ek : tK B L p = kd (B q) := by
        unfold tK kdA
        rw [← hs, if_pos (by omega)]
      -- the store behind
      have j2 := (j1.tr (Sj.set (J := fun j => 7 ≤ j ∧ j ≤ 10) S1 80 (j := 8) (nI q) (by decide))).tr (Sj.set (J := fun j => 7 ≤ j ∧ j ≤ 10) _ 80 (j := 10) (0 : Int32) (by decide))
      have r7 : (setI (setI S1 80 8 (nI q)) 80 10 0).1 80 7 = nI q := by
        rw [setI_at, if_neg (fun z => absurd z.2 (by decide)), setI_at, if_neg (fun z => absurd z.2 (by decide)), q7]
      have r8 : (setI (setI S1 80 8 (nI q)) 80 10 0).1 80 8 = nI (tF B L p) := by
        rw [setI_at, if_neg (fun z => absurd z.2 (by decide)), setI_at, if_pos ⟨rfl, rfl⟩, hs]
      have r10 : (setI (setI S1 80 8 (nI q)) 80 10 0).1 80 10 = 0 := by
        rw [setI_at, if_pos ⟨rfl, rfl⟩]
      generalize setI (setI S1 80 8 (nI q)) 80 10 0 = S2 at j2 r7 r8 r10
      have fin : ∀ t : Nat, t = 3 ∨ t = 4 → tK B L p = t → Q (setI (setI S2 80 9 (nI t)) 80 7 (S2.1 80 7 + 1)) := by
        intro t t34 et
        refine h _ ⟨?_, ?_, ?_, fun z => by omega⟩ ((j2.tr (Sj.set S2 80 _ (by decide))).tr (Sj.set _ 80 _ (by decide)))
        · rw [setI_at, if_neg (fun z => absurd z.2 (by decide)), setI_at, if_pos ⟨rfl, rfl⟩, et]
        · rw [setI_at, if_neg (fun z => absurd z.2 (by decide)), setI_at, if_neg (fun z => absurd z.2 (by decide)), r8]
        · rw [setI_at, if_pos ⟨rfl, rfl⟩, r7, nI_1]
          unfold tT
          rw [if_neg (by omega), if_neg (by omega), hs]
      refine sM_isAt hρ (Bm j2) (by omega) r7 (l := 97) (h := 122) rfl rfl (by decide) (by decide) (fun z z1 z2 => ?_) (fun y3 => ?_)
      · have k1 : tK B L p = 1 := by rw [ek]; exact kd1i.mpr ⟨z1, z2⟩
        rw [if_neg (by decide)]
        refine at83 (L - q) q _ (by omega) (j2.tr (Sj.set S2 80 _ (by decide))) k1 ?_ ?_ ?_ ?_
        · rw [setI_at, if_pos ⟨rfl, rfl⟩]; rfl
        · rw [setI_at, if_neg (fun z => absurd z.2 (by decide)), r8]
        · rw [setI_at, if_neg (fun z => absurd z.2 (by decide)), r7]
        · unfold tT
          rw [if_pos (Or.inl k1), k1, hs]
      rw [if_pos rfl]
      refine sM_isAt hρ (Bm j2) (by omega) r7 (l := 48) (h := 57) rfl rfl (by decide) (by decide) (fun z z1 z2 => ?_) (fun y4 => ?_)
      · have k2 : tK B L p = 2 := by rw [ek]; exact kd2i.mpr ⟨z1, z2⟩
        rw [if_neg (by decide)]
        refine at123 (L - q) q 0 _ (by omega) (j2.tr (Sj.set S2 80 _ (by decide))) k2 ?_ ?_ ?_ ?_ ?_ ?_ ?_
        · rw [setI_at, if_pos ⟨rfl, rfl⟩]; rfl
        · rw [setI_at, if_neg (fun z => absurd z.2 (by decide)), r8]
        · rw [setI_at, if_neg (fun z => absurd z.2 (by decide)), r7]
        · rw [setI_at, if_neg (fun z => absurd z.2 (by decide)), r10]; rfl
        · unfold tT
          rw [if_pos (Or.inr k2), k2, hs]
        · omega
        · unfold tV
          rw [hs]
      rw [if_pos rfl]
      refine sM_isAt hρ (Bm j2) (by omega) r7 (l := 59) (h := 59) rfl rfl (by decide) (by decide) (fun z z1 z2 => ?_) (fun y5 => ?_)
      · rw [if_neg (by decide)]
        exact fin 3 (Or.inl rfl) (by rw [ek]; exact kd3i.mpr (by omega))
      rw [if_pos rfl]
      refine fin 4 (Or.inr rfl) ?_
      have kl := kd_le (B q)
      have n1 : ¬ kd (B q) = 1 := fun z => y3 ⟨by omega, kd1i.mp z⟩
      have n2 : ¬ kd (B q) = 2 := fun z => y4 ⟨by omega, kd2i.mp z⟩
      have n3 : ¬ kd (B q) = 3 := fun z => y5 ⟨by omega, by have := kd3i.mp z; omega⟩
      omega
  exact at0 (L - p) p _ (by omega) (Sj.rf 80 _ S) e0 rfl
end L2
