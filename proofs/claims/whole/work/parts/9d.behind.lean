-- SUMS BEHIND
def lsb (bh φ : Nat → Nat) : Nat → List Nat → Nat
  | _, [] => 0
  | k, u :: L => bh k * φ u + lsb bh φ (k + 1) L
theorem lsb_app (bh φ : Nat → Nat) : ∀ A B k, lsb bh φ k (A ++ B) = lsb bh φ k A + lsb bh φ (k + A.length) B
  | [], B, k => by show lsb bh φ k B = 0 + lsb bh φ (k + 0) B; rw [Nat.add_zero, Nat.zero_add]
  | u :: A, B, k => by
    show bh k * φ u + lsb bh φ (k + 1) (A ++ B) = bh k * φ u + lsb bh φ (k + 1) A + lsb bh φ (k + (A.length + 1)) B
    rw [lsb_app bh φ A B (k + 1), show k + 1 + A.length = k + (A.length + 1) by omega]
    omega
theorem lsb_cg {bh bh' φ : Nat → Nat} : ∀ L k, (∀ i, k ≤ i → i < k + L.length → bh i = bh' i) → lsb bh φ k L = lsb bh' φ k L
  | [], _, _ => rfl
  | u :: L, k, h => by
    show bh k * φ u + lsb bh φ (k + 1) L = bh' k * φ u + lsb bh' φ (k + 1) L
    rw [List.length_cons] at h
    rw [h k (by omega) (by omega), lsb_cg L (k + 1) (fun i h1 h2 => h i (by omega) (by omega))]
theorem lsb_0 {bh φ : Nat → Nat} : ∀ L k, (∀ i, k ≤ i → i < k + L.length → bh i = 0) → lsb bh φ k L = 0
  | [], _, _ => rfl
  | u :: L, k, h => by
    show bh k * φ u + lsb bh φ (k + 1) L = 0
    rw [List.length_cons] at h
    rw [h k (by omega) (by omega), lsb_0 L (k + 1) (fun i h1 h2 => h i (by omega) (by omega)), Nat.zero_mul]
theorem lsb_up {bh φ : Nat → Nat} {A B : List Nat} {w k δ : Nat} : lsb (fun i => if i = k + A.length then bh i + δ else bh i) φ k (A ++ w :: B) = lsb bh φ k (A ++ w :: B) + δ * φ w := by
  rw [lsb_app, lsb_app]
  have e1 : lsb (fun i => if i = k + A.length then bh i + δ else bh i) φ k A = lsb bh φ k A := lsb_cg A k (fun i h1 h2 => if_neg (by omega))
  have e2 : lsb (fun i => if i = k + A.length then bh i + δ else bh i) φ (k + A.length + 1) B = lsb bh φ (k + A.length + 1) B := lsb_cg B _ (fun i h1 h2 => if_neg (by omega))
  show lsb _ φ k A + ((if k + A.length = k + A.length then bh (k + A.length) + δ else bh (k + A.length)) * φ w + lsb _ φ (k + A.length + 1) B) = lsb bh φ k A + (bh (k + A.length) * φ w + lsb bh φ (k + A.length + 1) B) + δ * φ w
  rw [e1, e2, if_pos rfl, Nat.add_mul]
  omega
def OPr (a : AS) (y : Nat) (φ : Nat → Nat) (u : Nat) : Nat := sml (fun l => φ (u - tk l)) (lnk a y u)
def BK (a : AS) : Nat → (Nat → Nat) → Nat
  | 0, φ => φ (cU a)
  | y + 1, φ => BK a y (OPr a y φ)
/-- the ways to the nodes -/
def BHd (a : AS) (V : Nat → List Nat) (bh : Nat → Nat) (S : St) : Prop := (∀ i, i < 480 → S.2 49 i = lN (bh i)) ∧ ∀ y, y ≤ nR a → ∀ φ, lsb bh φ (off V y) (V y) = BK a y φ
section BH
variable {g : GX} {d : Nat} {ρ : Rs} {S : St} {a : AS}
theorem sC_sumBehind {Q : St → Prop} (hρ : Ok ρ) (hF : ∀ k ∈ ([49] : List Nat), gF g k) (hW : WF a) (hR : nR a ≠ 0) {V : Nat → List Nat} (hD : DG a V S) (h : ∀ S' bh, BHd a V bh S' → S'.1 = S.1 → (∀ k, k ≠ 49 → S'.2 k = S.2 k) → Q S') : CALLv g (d + 4) mX1_sumBehind [.ref 31] ρ ρ S Q := by
  have hle := hW.le
  obtain ⟨cN, cL⟩ := hD.cap hW hR
  have hcapF := FA_cap hW hR
  have hV0 : V 0 = [cU a] := hD.1.2.2.2.1
  refine eX1_sumBehind hρ hF ?_
  refine sJ_fillL (n := 480) hρ (by decide) (by decide) rfl (by decide) (hF 49 (by simp)) (fun S0 z1 z2 z3 => ?_)
  have DGm : ∀ {S1 : St}, S1.1 = S.1 → (∀ k, k ≠ 49 → S1.2 k = S.2 k) → DG a V S1 := fun h1 h2 => hD.of h1 (fun k hk => h2 k (by omega))
  -- the last level
  have last : ∀ n i S1 bh, n + i = off V (nR a + 1) → off V (nR a) ≤ i → BHd a V bh S1 → S1.1 = S.1 → (∀ k, k ≠ 49 → S1.2 k = S.2 k) → AW g ρ (QV Q) (d + 4) mX1_sumBehind 17 [(0, .ref 31), (1, .int (nI i))] [] ρ S1 := by
    intro n
    induction n with
    | zero =>
      intro i S1 bh hi ho hB h1 h2
      have hD1 := DGm h1 h2
      refine eX1_sumBehind_17 hρ ?_
      rw [hD1.1.2.1, if_pos (nI_le (by omega) (by omega))]
      exact h S1 bh hB h1 h2
    | succ n ih =>
      intro i S1 bh hi ho hB h1 h2
      have hD1 := DGm h1 h2
      refine eX1_sumBehind_17 hρ ?_
      rw [hD1.1.2.1, if_neg (nI_ge (by omega) (by omega)), if_neg (show ¬ (480 : Int32) ≤ nI i from nI_ge (b := 480) (by omega) (by omega)), nI_1 i, nI_clamp (show i + 1 < 2 ^ 31 by omega), nI_clamp (show i < 2 ^ 31 by omega), hD1.2 i ho (by omega), hD1.2 (i + 1) (by omega) (by omega)]
      refine ⟨vp_in_nI (by omega) (by omega), nI_nlt (b := 0) (by omega) (by omega), nI_nlt (a := 4800) (by omega) (by omega), vp_in_nI (by omega) (by omega), nI_nlt (b := 0) (by omega) (by omega), nI_nlt (a := 4800) (by omega) (by omega), ?_⟩
      refine eX1_sumBehind_46 hρ hF ?_
      rw [if_pos (nI_le (Nat.le_refl _) (by omega)), nI_1 i]
      exact ih (i + 1) S1 bh (by omega) (by omega) hB h1 h2
  have lvl : ∀ n j S1 bh, n + j = nR a → (∀ i, i < 480 → S1.2 49 i = lN (bh i)) → (∀ y, y ≤ j → ∀ φ, lsb bh φ (off V y) (V y) = BK a y φ) → (∀ i, off V (j + 1) ≤ i → bh i = 0) → S1.1 = S.1 → (∀ k, k ≠ 49 → S1.2 k = S.2 k) → AW g ρ (QV Q) (d + 4) mX1_sumBehind 17 [(0, .ref 31), (1, .int (nI (off V j)))] [] ρ S1 := by
    intro n
    induction n with
    | zero =>
      intro j S1 bh hj i1 i2 i3 i4 i5
      rw [show j = nR a by omega] at i2 i3 ⊢
      have hm := off_mono V (i := nR a) (nR a + 1) (by omega)
      exact last (off V (nR a + 1) - off V (nR a)) (off V (nR a)) S1 bh (by omega) (Nat.le_refl _) ⟨i1, i2⟩ i4 i5
    | succ n ih =>
      intro j S1 bh hj i1 i2 i3 i4 i5
      have hjR : j < nR a := by omega
      have oS : off V (j + 1) = off V j + (V j).length := rfl
      have oS2 : off V (j + 2) = off V (j + 1) + (V (j + 1)).length := rfl
      have oM := off_mono V (i := j + 2) (nR a + 1) (by omega)
      have nodes : ∀ (B A : List Nat) S2 bh, V j = A ++ B → (∀ i, i < 480 → S2.2 49 i = lN (bh i)) → (∀ y, y ≤ j → ∀ φ, lsb bh φ (off V y) (V y) = BK a y φ) → (∀ φ, lsb bh φ (off V (j + 1)) (V (j + 1)) = lsb bh (OPr a j φ) (off V j) A) → (∀ i, off V (j + 2) ≤ i → bh i = 0) → S2.1 = S.1 → (∀ k, k ≠ 49 → S2.2 k = S.2 k) → AW g ρ (QV Q) (d + 4) mX1_sumBehind 17 [(0, .ref 31), (1, .int (nI (off V j + A.length)))] [] ρ S2 := by
        intro B
        induction B with
        | nil =>
          intro A S2 bh e j1 j2 j3 j4 j5 j6
          rw [List.append_nil] at e
          rw [← e, ← oS]
          refine ih (j + 1) S2 bh (by omega) j1 (fun y hy φ => ?_) j4 j5 j6
          by_cases c : y = j + 1
          · rw [c, j3 φ, ← e, j2 j (Nat.le_refl _)]
            rfl
          · exact j2 y (by omega) φ
        | cons u B ihB =>
          intro A S2 bh e j1 j2 j3 j4 j5 j6
          have hD2 := DGm j5 j6
          obtain ⟨f1, f2⟩ := hD2.first hjR e
          have hlk := DG.lk_lt (a := a) hjR e
          have hnl := DG.node_lt (a := a) (show j < j + 1 by omega) e
          refine eX1_sumBehind_17 hρ ?_
          rw [hD2.1.2.1, if_neg (nI_ge (by omega) (by omega)), if_neg (show ¬ (480 : Int32) ≤ nI (off V j + A.length) from nI_ge (b := 480) (by omega) (by omega)), nI_1 (off V j + A.length), nI_clamp (show off V j + A.length + 1 < 2 ^ 31 by omega), nI_clamp (show off V j + A.length < 2 ^ 31 by omega), f1, f2]
          refine ⟨vp_in_nI (by omega) (by omega), nI_nlt (b := 0) (by omega) (by omega), nI_nlt (a := 4800) (by omega) (by omega), vp_in_nI (by omega) (by omega), nI_nlt (b := 0) (by omega) (by omega), nI_nlt (a := 4800) (by omega) (by omega), ?_⟩
          have links : ∀ (R P : List Nat) S3 b3, lnk a j u = P ++ R → (∀ i, i < 480 → S3.2 49 i = lN (b3 i)) → (∀ i, i < off V (j + 1) → b3 i = bh i) → (∀ φ, lsb b3 φ (off V (j + 1)) (V (j + 1)) = lsb bh (OPr a j φ) (off V j) A + bh (off V j + A.length) * sml (fun l => φ (u - tk l)) P) → (∀ i, off V (j + 2) ≤ i → b3 i = 0) → S3.1 = S.1 → (∀ k, k ≠ 49 → S3.2 k = S.2 k) → AW g ρ (QV Q) (d + 4) mX1_sumBehind 46 [(0, .ref 31), (1, .int (nI (off V j + A.length))), (2, .int (nI (lof a V j + LC a j A + (lnk a j u).length))), (3, .int (nI (lof a V j + LC a j A + P.length)))] [] ρ S3 := by
            intro R
            induction R with
            | nil =>
              intro P S3 b3 eP k1 k2 k3 k4 k5 k6
              rw [List.append_nil] at eP
              refine eX1_sumBehind_46 hρ hF ?_
              rw [← eP, if_pos (nI_le (Nat.le_refl _) (by omega)), nI_1 (off V j + A.length)]
              have b3b : ∀ φ, lsb b3 φ (off V j) A = lsb bh φ (off V j) A := fun φ => lsb_cg A _ (fun i h1 h2 => k2 i (by omega))
              have := ihB (A ++ [u]) S3 b3 (by rw [e, List.append_assoc]; rfl) k1 (fun y hy φ => ?_) (fun φ => ?_) k4 k5 k6
              · rw [len1, ← Nat.add_assoc] at this
                exact this
              · rw [← j2 y hy φ]
                have hm := off_mono V (i := y + 1) (j + 1) (by omega)
                have e1 : off V (y + 1) = off V y + (V y).length := rfl
                exact lsb_cg (V y) _ (fun i h1 h2 => k2 i (by omega))
              · rw [k3 φ, lsb_app, b3b, ← eP]
                show _ = _ + (b3 (off V j + A.length) * OPr a j φ u + 0)
                rw [k2 _ (by omega), Nat.add_zero]
                unfold OPr
                exact Eq.refl _
            | cons l R ihR =>
              intro P S3 b3 eP k1 k2 k3 k4 k5 k6
              have hD3 := DGm k5 k6
              have hq : P.length < (lnk a j u).length := by rw [eP, List.length_append, List.length_cons]; omega
              have hgl : (lnk a j u).getD P.length 0 = l := by rw [eP]; exact getD_mid
              obtain ⟨k, A', B', l1, l2, l3, l4, l5⟩ := hD3.link hjR e hq
              rw [hgl] at l3 l5
              have hto := DG.node_lt (a := a) (show j + 1 < j + 2 by omega) l5
              refine eX1_sumBehind_46 hρ hF ?_
              rw [if_neg (nI_ge (by omega) (by omega)), nI_clamp (show lof a V j + LC a j A + P.length < 2 ^ 31 by omega), l4, if_neg (show ¬ nI (off V (j + 1) + A'.length) < (0 : Int32) from nI_nlt (b := 0) (by omega) (by omega)), if_neg (show ¬ (480 : Int32) ≤ nI (off V (j + 1) + A'.length) from nI_ge (b := 480) (by omega) (by omega)), nI_clamp (show off V (j + 1) + A'.length < 2 ^ 31 by omega), nI_clamp (show off V j + A.length < 2 ^ 31 by omega), nI_1, k1 _ (by omega), k1 _ (by omega), lN_add]
              refine ⟨vp_in_nI (by omega) (by omega), vp_in_nI (by omega) (by omega), vp_in_nI (by omega) (by omega), vp_in_nI (by omega) (by omega), ?_⟩
              have := ihR (P ++ [l]) (setL S3 49 (off V (j + 1) + A'.length) (lN (b3 (off V (j + 1) + A'.length) + b3 (off V j + A.length)))) (fun i => if i = off V (j + 1) + A'.length then b3 i + b3 (off V j + A.length) else b3 i) (by rw [eP, List.append_assoc]; rfl) (fun i hi => ?_) (fun i hi => ?_) (fun φ => ?_) (fun i hi => ?_) k5 (fun k hk => by rw [setL_ne _ _ _ hk]; exact k6 k hk)
              · rw [len1] at this
                exact this
              · rw [setL_at]
                by_cases c : i = off V (j + 1) + A'.length
                · rw [if_pos ⟨rfl, c⟩, if_pos c, c]
                · rw [if_neg (fun z => c z.2), if_neg c]; exact k1 i hi
              · show (if i = off V (j + 1) + A'.length then _ else b3 i) = _
                rw [if_neg (by omega)]; exact k2 i hi
              · have e5 := k3 φ
                rw [l5] at e5 ⊢
                rw [lsb_up, e5, sml_app, sml_1, k2 _ (by omega), Nat.mul_add]
                omega
              · show (if i = off V (j + 1) + A'.length then _ else b3 i) = 0
                rw [if_neg (by omega)]; exact k4 i hi
          exact links (lnk a j u) [] S2 bh (List.nil_append _).symm j1 (fun i _ => rfl) (fun φ => by rw [j3 φ]; show _ = _ + _ * 0; rw [Nat.mul_zero, Nat.add_zero]) j4 j5 j6
      have := nodes (V j) [] S1 bh (List.nil_append _).symm i1 i2 (fun φ => ?_) (fun i hi => i3 i (by omega)) i4 i5
      · exact this
      · show _ = 0
        exact lsb_0 _ _ (fun i h1 h2 => i3 i h1)
  refine lvl (nR a) 0 (setL S0 49 0 1) (fun i => if i = 0 then 1 else 0) (by omega) (fun i hi => ?_) (fun y hy φ => ?_) (fun i hi => ?_) z3 (fun k hk => by rw [setL_ne _ _ _ hk]; exact (z2 k hk).2)
  · rw [setL_at]
    by_cases c : i = 0
    · rw [if_pos ⟨rfl, c⟩, if_pos c]; rfl
    · rw [if_neg (fun z => c z.2), if_neg c, z1 i hi]; rfl
  · rw [show y = 0 by omega, hV0]
    show 1 * φ (cU a) + 0 = φ (cU a)
    omega
  · have e1 : off V 1 = 0 + (V 0).length := rfl
    rw [hV0] at e1
    have e2 : ([cU a] : List Nat).length = 1 := rfl
    have hi : off V (0 + 1) ≤ i := hi
    rw [show off V (0 + 1) = off V 1 from rfl] at hi
    show (if i = 0 then 1 else 0) = 0
    rw [if_neg (by omega)]
end BH
