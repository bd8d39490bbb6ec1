-- HOW OFTEN A CELL IS WHAT
def G1 (a : AS) (y u : Nat) : Nat := GT a (fun _ _ => 1) (4 - y) y u
def φS (a : AS) (y x v u : Nat) : Nat := sml (fun l => if dg l x = v then G1 a (y + 1) (u - tk l) else 0) (lnk a y u)
theorem φS_eq (a : AS) (y x v u : Nat) : φS a y x v u = sml (fun l => if dg l x = v then G1 a (y + 1) (u - tk l) else 0) (lnk a y u) := by rw [φS]
def SN (f : Nat → Nat → Nat → Nat) (S : St) : Prop := ∀ y x v, y < 4 → x < 4 → v ≤ 20 → S.2 53 ((4 * y + x) * 21 + v) = lN (f y x v)
def SNd (a : AS) (S : St) : Prop := ∀ y x v, y < nR a → x < 4 → v ≤ 20 → S.2 53 ((4 * y + x) * 21 + v) = lN (BK a y (φS a y x v))
section SEn
variable {g : GX} {d : Nat} {ρ : Rs} {S : St} {a : AS}
theorem sC_seenAt {Q : Int32 → St → Prop} (hρ : Ok ρ) {y x v : Nat} (h : Q (nI ((4 * y + x) * 21 + v)) S) : CALLi g (d + 3) mX1_seenAt [.int (nI y), .int (nI x), .int (nI v)] ρ ρ S Q := by
  refine eX1_seenAt hρ ?_
  have e : ((4 * nI y + nI x) * 21 + nI v : Int32) = nI ((4 * y + x) * 21 + v) := by
    show (nI 4 * nI y + nI x) * nI 21 + nI v = _
    rw [pk_mul, nI_add, pk_mul, nI_add]
  rw [e]
  exact h
theorem sC_addSeen {Q : St → Prop} (hρ : Ok ρ) (hF : ∀ k ∈ ([53] : List Nat), gF g k) {y l T : Nat} (hy : y < 4) (hl : l < 65536) {f : Nat → Nat → Nat → Nat} (hf : SN f S) (h : ∀ S', SN (fun y' x v => f y' x v + if y' = y ∧ dg l x = v then T else 0) S' → S'.1 = S.1 → (∀ k, k ≠ 53 → S'.2 k = S.2 k) → Q S') : CALLv g (d + 4) mX1_addSeen [.ref 31, .int (nI y), .int (nI l), .long (lN T)] ρ ρ S Q := by
  refine eX1_addSeen hρ ?_
  have key : ∀ n x S1, n + x = 4 → SN (fun y' x' v => f y' x' v + if y' = y ∧ x' < x ∧ dg l x' = v then T else 0) S1 → S1.1 = S.1 → (∀ k, k ≠ 53 → S1.2 k = S.2 k) → AW g ρ (QV Q) (d + 4) mX1_addSeen 3 [(0, .ref 31), (1, .int (nI y)), (2, .int (nI l)), (3, .long (lN T)), (5, .int (nI x))] [] ρ S1 := by
    intro n
    induction n with
    | zero =>
      intro x S1 hx h1 h2 h3
      refine eX1_addSeen_3 hρ hF ?_
      rw [show x = 4 by omega] at h1 ⊢
      rw [if_pos (by decide)]
      refine h S1 (fun y' x' v a1 a2 a3 => ?_) h2 h3
      rw [h1 y' x' v a1 a2 a3]
      dsimp only
      congr 2
      by_cases c : y' = y ∧ dg l x' = v
      · rw [if_pos c, if_pos ⟨c.1, a2, c.2⟩]
      · rw [if_neg c, if_neg (fun z => c ⟨z.1, z.2.2⟩)]
    | succ n ih =>
      intro x S1 hx h1 h2 h3
      have hd := dg_lt l x
      refine eX1_addSeen_3 hρ hF ?_
      rw [if_neg (show ¬ (4 : Int32) ≤ nI x from nI_ge (b := 4) (by omega) (by omega))]
      refine sC_inLine hρ hl (by omega) (sC_seenAt hρ ?_)
      have hi : (4 * y + x) * 21 + dg l x < 336 := by omega
      rw [if_neg (show ¬ nI ((4 * y + x) * 21 + dg l x) < (0 : Int32) from nI_nlt (b := 0) (by omega) (by omega)), if_neg (show ¬ (336 : Int32) ≤ nI ((4 * y + x) * 21 + dg l x) from nI_ge (b := 336) (by omega) (by omega)), nI_clamp (by omega), nI_1, h1 y x (dg l x) hy (by omega) (by omega), lN_add]
      refine ⟨vp_in_nI hi (by omega), vp_in_nI hi (by omega), ?_⟩
      refine ih (x + 1) _ (by omega) (fun y' x' v a1 a2 a3 => ?_) h2 (fun k hk => by rw [setL_ne _ _ _ hk]; exact h3 k hk)
      rw [setL_at]
      by_cases c : y' = y ∧ x' = x ∧ v = dg l x
      · obtain ⟨rfl, rfl, rfl⟩ := c
        rw [if_pos ⟨rfl, rfl⟩]
        congr 1
        show f y' x' (dg l x') + (if y' = y' ∧ x' < x' ∧ dg l x' = dg l x' then T else 0) + T = f y' x' (dg l x') + if y' = y' ∧ x' < x' + 1 ∧ dg l x' = dg l x' then T else 0
        rw [if_neg (by omega), if_pos ⟨rfl, by omega, rfl⟩]
        omega
      · rw [if_neg (by omega), h1 y' x' v a1 a2 a3]
        dsimp only
        congr 2
        by_cases c2 : y' = y ∧ x' < x ∧ dg l x' = v
        · rw [if_pos c2, if_pos ⟨c2.1, by omega, c2.2.2⟩]
        · rw [if_neg c2, if_neg (fun z => ?_)]
          refine c2 ⟨z.1, ?_, z.2.2⟩
          refine Nat.lt_of_le_of_ne (by omega) (fun e => c ⟨z.1, e, ?_⟩)
          rw [← e]; exact z.2.2.symm
  refine key 4 0 S (by omega) (fun y' x' v a1 a2 a3 => ?_) rfl (fun _ _ => rfl)
  rw [hf y' x' v a1 a2 a3]
  congr 1
  show _ = f y' x' v + if y' = y ∧ x' < 0 ∧ dg l x' = v then T else 0
  rw [if_neg (by omega)]
  rfl
theorem sC_sumSeen {Q : St → Prop} (hρ : Ok ρ) (hF : ∀ k ∈ ([53] : List Nat), gF g k) (hW : WF a) (hR : nR a ≠ 0) {V : Nat → List Nat} {bh : Nat → Nat} (hD : DG a V S) (hA : AHd a V 0 S) (hB : BHd a V bh S) (h : ∀ S', SNd a S' → S'.1 = S.1 → (∀ k, k ≠ 53 → S'.2 k = S.2 k) → Q S') : CALLv g (d + 5) mX1_sumSeenCells [.ref 31] ρ ρ S Q := by
  have hle := hW.le
  obtain ⟨cN, cL⟩ := hD.cap hW hR
  have hcapF := FA_cap hW hR
  refine eX1_sumSeenCells hρ ?_
  refine sJ_fillL (n := 336) hρ (by decide) (by decide) rfl (by decide) (hF 53 (by simp)) (fun S0 z1 z2 z3 => ?_)
  have DGm : ∀ {S1 : St}, S1.1 = S.1 → (∀ k, k ≠ 53 → S1.2 k = S.2 k) → DG a V S1 := fun h1 h2 => hD.of h1 (fun k hk => h2 k (by omega))
  have rows : ∀ n y S1 f, n + y = nR a → SN f S1 → (∀ y' x v, y' < y → f y' x v = BK a y' (φS a y' x v)) → (∀ y' x v, y ≤ y' → f y' x v = 0) → S1.1 = S.1 → (∀ k, k ≠ 53 → S1.2 k = S.2 k) → AW g ρ (QV Q) (d + 3 + 2) mX1_sumSeenCells 10 [(0, .ref 31), (1, .int (nI y))] [] ρ S1 := by
    intro n
    induction n with
    | zero =>
      intro y S1 f hy j1 j2 j3 j5 j6
      have hD1 := DGm j5 j6
      refine eX1_sumSeenCells_10 hρ ?_
      rw [hD1.1.1, if_pos (nI_le (by omega) (by omega))]
      refine h S1 (fun y' x v a1 a2 a3 => ?_) j5 j6
      rw [j1 y' x v (by omega) a2 a3, j2 y' x v (by omega)]
    | succ n ih =>
      intro y S1 f hy j1 j2 j3 j5 j6
      have hyR : y < nR a := by omega
      have hD1 := DGm j5 j6
      have oS : off V (y + 1) = off V y + (V y).length := rfl
      have oM := off_mono V (i := y + 1) (nR a) (by omega)
      have oM2 := off_mono V (i := nR a) (nR a + 1) (by omega)
      refine eX1_sumSeenCells_10 hρ ?_
      rw [hD1.1.1, if_neg (nI_ge (by omega) (by omega)), nI_1 y, nI_clamp (show y + 1 < 2 ^ 31 by omega), nI_clamp (show y < 2 ^ 31 by omega), hD1.1.2.2.2.2.2.1 y (by omega), hD1.1.2.2.2.2.2.1 (y + 1) (by omega)]
      refine ⟨vp_in_nI (by omega) (by omega), nI_nlt (b := 0) (by omega) (by omega), nI_nlt (a := 480) (by omega) (by omega), vp_in_nI (by omega) (by omega), nI_nlt (b := 0) (by omega) (by omega), nI_nlt (a := 480) (by omega) (by omega), ?_⟩
      have nodes : ∀ (B A : List Nat) S2 f2, V y = A ++ B → SN f2 S2 → (∀ y' x v, y' < y → f2 y' x v = BK a y' (φS a y' x v)) → (∀ x v, f2 y x v = lsb bh (φS a y x v) (off V y) A) → (∀ y' x v, y < y' → f2 y' x v = 0) → S2.1 = S.1 → (∀ k, k ≠ 53 → S2.2 k = S.2 k) → AW g ρ (QV Q) (d + 3 + 2) mX1_sumSeenCells 32 [(0, .ref 31), (1, .int (nI y)), (2, .int (nI (off V (y + 1)))), (3, .int (nI (off V y + A.length)))] [] ρ S2 := by
        intro B
        induction B with
        | nil =>
          intro A S2 f2 e k1 k2 k3 k4 k5 k6
          rw [List.append_nil] at e
          refine eX1_sumSeenCells_32 hρ ?_
          rw [oS, e, if_pos (nI_le (Nat.le_refl _) (by rw [← e]; omega)), nI_1 y]
          refine ih (y + 1) S2 f2 (by omega) k1 (fun y' x v hy' => ?_) (fun y' x v hy' => k4 y' x v (by omega)) k5 k6
          by_cases c : y' = y
          · rw [c, k3 x v, ← e]
            exact hB.2 y (by omega) _
          · exact k2 y' x v (by omega)
        | cons u B ihB =>
          intro A S2 f2 e k1 k2 k3 k4 k5 k6
          have hD2 := DGm k5 k6
          obtain ⟨f1, f2'⟩ := hD2.first hyR e
          have hlk := DG.lk_lt (a := a) hyR e
          have hnl := DG.node_lt (a := a) (show y < y + 1 by omega) e
          refine eX1_sumSeenCells_32 hρ ?_
          rw [if_neg (nI_ge (by omega) (by omega)), nI_1 (off V y + A.length), nI_clamp (show off V y + A.length + 1 < 2 ^ 31 by omega), nI_clamp (show off V y + A.length < 2 ^ 31 by omega), f1, f2']
          refine ⟨vp_in_nI (by omega) (by omega), nI_nlt (b := 0) (by omega) (by omega), nI_nlt (a := 4800) (by omega) (by omega), vp_in_nI (by omega) (by omega), nI_nlt (b := 0) (by omega) (by omega), nI_nlt (a := 4800) (by omega) (by omega), ?_⟩
          have links : ∀ (R P : List Nat) S3 f3, lnk a y u = P ++ R → SN f3 S3 → (∀ y' x v, y' < y → f3 y' x v = BK a y' (φS a y' x v)) → (∀ x v, f3 y x v = lsb bh (φS a y x v) (off V y) A + bh (off V y + A.length) * sml (fun l => if dg l x = v then G1 a (y + 1) (u - tk l) else 0) P) → (∀ y' x v, y < y' → f3 y' x v = 0) → S3.1 = S.1 → (∀ k, k ≠ 53 → S3.2 k = S.2 k) → AW g ρ (QV Q) (d + 3 + 2) mX1_sumSeenCells 53 [(0, .ref 31), (1, .int (nI y)), (2, .int (nI (off V (y + 1)))), (3, .int (nI (off V y + A.length))), (4, .int (nI (lof a V y + LC a y A + (lnk a y u).length))), (5, .int (nI (lof a V y + LC a y A + P.length)))] [] ρ S3 := by
            intro R
            induction R with
            | nil =>
              intro P S3 f3 eP q1 q2 q3 q4 q5 q6
              rw [List.append_nil] at eP
              refine eX1_sumSeenCells_53 hρ ?_
              rw [← eP, if_pos (nI_le (Nat.le_refl _) (by omega)), nI_1 (off V y + A.length)]
              have := ihB (A ++ [u]) S3 f3 (by rw [e, List.append_assoc]; rfl) q1 q2 (fun x v => ?_) q4 q5 q6
              · rw [len1, ← Nat.add_assoc] at this
                exact this
              · rw [q3 x v, lsb_app, ← eP]
                show _ = _ + (bh (off V y + A.length) * φS a y x v u + 0)
                rw [φS_eq, Nat.add_zero (bh (off V y + A.length) * _)]
            | cons l R ihR =>
              intro P S3 f3 eP q1 q2 q3 q4 q5 q6
              have hD3 := DGm q5 q6
              have hq : P.length < (lnk a y u).length := by rw [eP, List.length_append, List.length_cons]; omega
              have hgl : (lnk a y u).getD P.length 0 = l := by rw [eP]; exact getD_mid
              have hlm : l ∈ lnk a y u := by rw [eP]; simp
              have hl16 := (LL_dg (lnk_mem.mp hlm).1).1
              obtain ⟨k, A', B', l1, l2, l3, l4, l5⟩ := hD3.link hyR e hq
              rw [hgl] at l3 l5
              have hto := DG.node_lt (a := a) (show y + 1 < nR a + 1 by omega) l5
              have ha := (hA (y + 1) A' _ B' (by omega) l5 (Nat.zero_le _)).1
              refine eX1_sumSeenCells_53 hρ ?_
              rw [if_neg (nI_ge (by omega) (by omega)), nI_clamp (show lof a V y + LC a y A + P.length < 2 ^ 31 by omega), l1, l4, nI_clamp (show off V (y + 1) + A'.length < 2 ^ 31 by omega), nI_clamp (show off V y + A.length < 2 ^ 31 by omega), nI_clamp (show k < 2 ^ 31 by omega), l3.1, q6 49 (by decide), q6 47 (by decide), hB.1 _ (by omega), ha, lN_mul, nI_1]
              refine ⟨vp_in_nI (by omega) (by omega), vp_in_nI (by omega) (by omega), vp_in_nI (by omega) (by omega), vp_in_nI (by omega) (by omega), vp_in_nI (by omega) (by omega), ?_⟩
              refine sC_addSeen hρ hF (show y < 4 by omega) hl16 q1 (fun S4 r1 r2 r3 => ?_)
              have := ihR (P ++ [l]) S4 _ (by rw [eP, List.append_assoc]; rfl) r1 (fun y' x v hy' => ?_) (fun x v => ?_) (fun y' x v hy' => ?_) (r2.trans q5) (fun k hk => (r3 k hk).trans (q6 k hk))
              · rw [len1] at this
                exact this
              · show f3 y' x v + (if y' = y ∧ dg l x = v then _ else 0) = _
                rw [if_neg (by omega)]
                exact q2 y' x v hy'
              · show f3 y x v + (if y = y ∧ dg l x = v then _ else 0) = _
                rw [q3 x v, sml_app, sml_1, Nat.mul_add, ← Nat.add_assoc]
                by_cases c : dg l x = v
                · rw [if_pos ⟨rfl, c⟩, if_pos c]
                  have e9 : G1 a (y + 1) (u - tk l) = GT a (fun _ _ => 1) (4 - (y + 1)) (y + 1) (u - tk l) := by rw [G1]
                  rw [e9]
                · rw [if_neg (fun z => c z.2), if_neg c, Nat.mul_zero]
              · show f3 y' x v + (if y' = y ∧ dg l x = v then _ else 0) = 0
                rw [if_neg (by omega)]
                exact q4 y' x v hy'
          exact links (lnk a y u) [] S2 f2 (List.nil_append _).symm k1 k2 (fun x v => by rw [k3 x v]; show _ = _ + _ * 0; rw [Nat.mul_zero, Nat.add_zero]) k4 k5 k6
      exact nodes (V y) [] S1 f (List.nil_append _).symm j1 j2 (fun x v => j3 y x v (Nat.le_refl _)) (fun y' x v hy' => j3 y' x v (by omega)) j5 j6
  refine rows (nR a) 0 S0 (fun _ _ _ => 0) (by omega) (fun y x v a1 a2 a3 => ?_) (fun y' x v hy' => absurd hy' (by omega)) (fun _ _ _ _ => rfl) z3 (fun k hk => (z2 k hk).2)
  rw [z1 _ (by omega)]
  rfl
/-- the whole fiber stands in the store -/
def IFb (a : AS) (V : Nat → List Nat) (S : St) : Prop := DG a V S ∧ AHd a V 0 S ∧ SNd a S
def FFb (k : Nat) : Prop := 31 ≤ k ∧ k ≤ 53
theorem sC_fiber {Q : St → Prop} (hρ : Ok ρ) (hF : ∀ k, FFb k → gF g k) (hW : WF a) (hR : nR a ≠ 0) (hI : IB a S) (h : ∀ S' V, IFb a V S' → Fr FFb S S' → Q S') : CALLv g (d + 11) mX1_make [.ref 31, .ref 21] ρ ρ S Q := by
  have hle := hW.le
  have ht := hW.told hR
  have hIm : ∀ {S'}, Fr FFb S S' → IB a S' := fun f => hI.fr (fun k hk z => by unfold FFb at z; omega) f
  have hFm : ∀ L : List Nat, (∀ k, k ∈ L → FFb k) → ∀ k ∈ L, gF g k := fun L hL k hk => hF k (hL k hk)
  refine eX1_make hρ (hFm _ (by intro k hk; unfold FFb; simp at hk; omega)) ?_
  have s0 : Fr FFb S (setI (setI (setI S 31 1 (S.1 21 0)) 31 2 0) 31 14 0) := by
    have f31 : FFb 31 := by unfold FFb; omega
    exact Fr.tr (Fr.tr (Fr.setI (F := FFb) _ _ _ f31) (Fr.setI (F := FFb) _ _ _ f31)) (Fr.setI (F := FFb) _ _ _ f31)
  refine sC_fills hρ (hFm _ (by intro k hk; unfold FFb; simp at hk; omega)) hW hR (hIm s0) (FA_cap hW hR) (fun S1 hFI f1 => ?_)
  have s1 : Fr FFb S S1 := s0.tr (f1.mono (fun k hk => by unfold Fmk FFil at hk; unfold FFb; omega))
  refine sC_takenBy hρ ht (hIm s1) ?_
  refine sC_codeOf hρ ht (hIm s1) hFI.1.2.2.1 ?_
  refine eX1_addNode hρ (hFm _ (by intro k hk; unfold FFb; simp at hk; omega)) ?_
  have q31 : S1.1 31 = (setI (setI (setI S 31 1 (S.1 21 0)) 31 2 0) 31 14 0).1 31 := (f1 31 (fun z => by unfold Fmk FFil at z; omega)).1
  have e2 : S1.1 31 2 = 0 := by rw [q31, setI_at, if_neg (by omega), setI_at, if_pos ⟨rfl, rfl⟩]
  have e1 : S1.1 31 1 = nI (nR a) := by rw [q31, setI_at, if_neg (by omega), setI_at, if_neg (by omega), setI_at, if_pos ⟨rfl, rfl⟩]; exact hI.2.2.2.2.1
  have e14 : S1.1 31 14 = 0 := by rw [q31, setI_at, if_pos ⟨rfl, rfl⟩]
  rw [e2]
  refine ⟨by decide, by decide, vp_in_nI (n := 0) (by omega) (by omega), vp_in_nI (n := 0) (by omega) (by omega), ?_⟩
  show AW g ρ (QV Q) (d + 9 + 2) mX1_make 56 [(0, .ref 31), (2, .int 0)] [] ρ (setI (setI (setI (setI S1 50 0 (nI (cU a))) 51 0 (nI (cdu a (cU a)))) 31 2 1) 43 0 0)
  have s2 : Fr FFb S (setI (setI (setI (setI S1 50 0 (nI (cU a))) 51 0 (nI (cdu a (cU a)))) 31 2 1) 43 0 0) := by
    have f1 : ∀ k, k = 50 ∨ k = 51 ∨ k = 31 ∨ k = 43 → FFb k := fun k hk => by unfold FFb; omega
    exact Fr.tr (Fr.tr (Fr.tr (Fr.tr s1 (Fr.setI (F := FFb) _ _ _ (f1 50 (by simp)))) (Fr.setI (F := FFb) _ _ _ (f1 51 (by simp)))) (Fr.setI (F := FFb) _ _ _ (f1 31 (by simp)))) (Fr.setI (F := FFb) _ _ _ (f1 43 (by simp)))
  refine sC_levels (d := d + 3) (V := fun j => if j = 0 then [cU a] else []) hρ (hFm _ (by intro k hk; unfold FFb; simp at hk; omega)) hW hR (fun S3 V hD g1 g2 => ?_) ⟨?_, ?_, ?_, rfl, fun j hj => ?_, fun j hj => ?_, fun j hj => absurd hj (by omega), ?_⟩
  · have s3 : Fr FFb S S3 := s2.tr (fun k hk => ⟨g1 k (fun z => hk (by unfold FFb; omega)), by rw [g2]⟩)
    refine sC_sumAhead hρ (hFm _ (by intro k hk; unfold FFb; simp at hk; omega)) hW hR hD (fun S4 hA k1 k2 => ?_)
    have hD4 : DG a V S4 := hD.of k1 (fun k hk => k2 k (by omega) (by omega))
    have s4 : Fr FFb S S4 := s3.tr (fun k hk => ⟨by rw [k1], k2 k (fun z => hk (by unfold FFb; omega)) (fun z => hk (by unfold FFb; omega))⟩)
    refine sC_sumBehind hρ (hFm _ (by intro k hk; unfold FFb; simp at hk; omega)) hW hR hD4 (fun S5 bh hB l1 l2 => ?_)
    have hD5 : DG a V S5 := hD4.of l1 (fun k hk => l2 k (by omega))
    have hA5 : AHd a V 0 S5 := fun j A u B hj e hk => by rw [l2 47 (by decide), l2 48 (by decide)]; exact hA j A u B hj e hk
    have s5 : Fr FFb S S5 := s4.tr (fun k hk => ⟨by rw [l1], l2 k (fun z => hk (by unfold FFb; omega))⟩)
    refine sC_sumSeen hρ (hFm _ (by intro k hk; unfold FFb; simp at hk; omega)) hW hR hD5 hA5 hB (fun S6 hS m1 m2 => ?_)
    refine h S6 V ⟨hD5.of m1 (fun k hk => m2 k (by omega)), fun j A u B hj e hk => ?_, hS⟩ (s5.tr (fun k hk => ⟨by rw [m1], m2 k (fun z => hk (by unfold FFb; omega))⟩))
    rw [m2 47 (by decide), m2 48 (by decide)]
    exact hA5 j A u B hj e hk
  · rw [setI_ne _ _ _ (by decide), setI_at, if_neg (by omega), setI_ne _ _ _ (by decide), setI_ne _ _ _ (by decide)]; exact e1
  · rw [setI_ne _ _ _ (by decide), setI_at, if_pos ⟨rfl, rfl⟩]; rfl
  · rw [setI_ne _ _ _ (by decide), setI_at, if_neg (by omega), setI_ne _ _ _ (by decide), setI_ne _ _ _ (by decide)]; exact e14
  · rw [show j = 0 by omega]
    refine ⟨?_, fun u hu => ?_, fun t ht2 => ?_⟩
    · show ([cU a] : List Nat).Nodup
      simp
    · have hu : u ∈ [cU a] := hu
      rw [List.mem_singleton.mp hu]
      exact Vd_root ht
    · have ht2 : t < 1 := ht2
      rw [show t = 0 by omega]
      show (setI (setI (setI (setI S1 50 0 (nI (cU a))) 51 0 (nI (cdu a (cU a)))) 31 2 1) 43 0 0).1 50 0 = nI (cU a) ∧ (setI (setI (setI (setI S1 50 0 (nI (cU a))) 51 0 (nI (cdu a (cU a)))) 31 2 1) 43 0 0).1 51 0 = nI (cdu a (cU a))
      rw [setI_ne _ _ _ (by decide), setI_ne _ _ _ (by decide), setI_ne _ _ _ (by decide), setI_at, if_pos ⟨rfl, rfl⟩, setI_ne _ _ _ (by decide), setI_ne _ _ _ (by decide), setI_at, if_pos ⟨rfl, rfl⟩]
      exact ⟨rfl, rfl⟩
  · rw [show j = 0 by omega, setI_at, if_pos ⟨rfl, rfl⟩]; rfl
  · unfold FIs FI fillAt
    rw [setI_ne _ _ _ (by decide), setI_ne _ _ _ (by decide), setI_ne _ _ _ (by decide), setI_ne _ _ _ (by decide), setI_ne _ _ _ (by decide), setI_ne _ _ _ (by decide), setI_ne _ _ _ (by decide), setI_ne _ _ _ (by decide), setI_ne _ _ _ (by decide), setI_ne _ _ _ (by decide), setI_ne _ _ _ (by decide), setI_ne _ _ _ (by decide), setI_ne _ _ _ (by decide), setI_ne _ _ _ (by decide), setI_ne _ _ _ (by decide), setI_ne _ _ _ (by decide), setI_ne _ _ _ (by decide), setI_ne _ _ _ (by decide), setI_ne _ _ _ (by decide), setI_ne _ _ _ (by decide), setI_ne _ _ _ (by decide), setI_ne _ _ _ (by decide), setI_ne _ _ _ (by decide), setI_ne _ _ _ (by decide), setI_L, setI_L, setI_L, setI_L]
    exact hFI
end SEn
