-- THE CLASS READS THE TEXT: lines
section R2
variable {g : GX} {d : Nat} {ρ : Rs} {B : Nat → Nat} {L : Nat} {S0 S : St} {p R C ln : Nat} {h : Nat → Nat → Bool} {T : Nat} {t : Nat → Nat → Nat}
theorem CtC.sizes (hc : CtC B L S0 p R C ln h T t S) (r c : Nat) : CtC B L S0 p r c ln h T t (setI (setI S 19 2 (nI r)) 19 3 (nI c)) := by
  obtain ⟨⟨l1, l2, l3, l4⟩, ⟨r0, r1, r2, r3, r4, r5, r7, r20⟩, c3, c4⟩ := hc
  refine ⟨⟨?_, ?_, ?_, fun z => ?_⟩, ⟨?_, ?_, ?_, ?_, ?_, ?_, ?_, ?_⟩, (c3.tr (Fr.setI _ _ _ (Or.inl rfl))).tr (Fr.setI _ _ _ (Or.inl rfl)), c4⟩
  · simp [setI_at, l1]
  · simp [setI_at, l2]
  · simp [setI_at, l3]
  · simp [setI_at, l4 z]
  · simp [setI_at, r0]
  · simp [setI_at, r1]
  · simp [setI_at]
  · simp [setI_at]
  · simp [setI_at, r4]
  · simp [setI_at, r5]
  · simp [setI_at, r7]
  · intro k hk; simp [setI_at, r20 k hk]
theorem CtC.cell (hc : CtC B L S0 p R C ln h T t S) {y x v : Nat} (hy : y < 4) (hx : x < 4) : CtC B L S0 p R C ln h (T + v) (udt t y x v) (setI (setI S 19 7 (nI (T + v))) 20 (4 * y + x) (nI v)) := by
  obtain ⟨⟨l1, l2, l3, l4⟩, ⟨r0, r1, r2, r3, r4, r5, r7, r20⟩, c3, c4⟩ := hc
  refine ⟨⟨?_, ?_, ?_, fun z => ?_⟩, ⟨?_, ?_, ?_, ?_, ?_, ?_, ?_, ?_⟩, (c3.tr (Fr.setI _ _ _ (Or.inl rfl))).tr (Fr.setI _ _ _ (Or.inr rfl)), c4⟩
  · simp [setI_at, l1]
  · simp [setI_at, l2]
  · simp [setI_at, l3]
  · simp [setI_at, l4 z]
  · simp [setI_at, r0]
  · simp [setI_at, r1]
  · simp [setI_at, r2]
  · simp [setI_at, r3]
  · simp [setI_at, r4]
  · simp [setI_at, r5]
  · simp [setI_at]
  · intro k hk
    rw [setI_at]
    unfold udt
    by_cases c : k = 4 * y + x
    · rw [if_pos ⟨rfl, c⟩, if_pos (by omega)]
    · rw [if_neg (fun z => c z.2), if_neg (by omega), setI_ne _ _ _ (by decide)]; exact r20 k hk
theorem CtC.hole (hc : CtC B L S0 p R C ln h T t S) {y x : Nat} (hy : y < 4) (hx : x < 4) : CtC B L S0 p R C ln (udt h y x true) T t (setI S 19 5 (nI (hB h) ||| (1 <<< (nI (4 * y + x) &&& 31)))) := by
  obtain ⟨⟨l1, l2, l3, l4⟩, ⟨r0, r1, r2, r3, r4, r5, r7, r20⟩, c3, c4⟩ := hc
  refine ⟨⟨?_, ?_, ?_, fun z => ?_⟩, ⟨?_, ?_, ?_, ?_, ?_, ?_, ?_, ?_⟩, c3.tr (Fr.setI _ _ _ (Or.inl rfl)), c4⟩
  · simp [setI_at, l1]
  · simp [setI_at, l2]
  · simp [setI_at, l3]
  · simp [setI_at, l4 z]
  · simp [setI_at, r0]
  · simp [setI_at, r1]
  · simp [setI_at, r2]
  · simp [setI_at, r3]
  · simp [setI_at, r4]
  · rw [setI_at, if_pos ⟨rfl, rfl⟩, shl1 (by omega), fa_or, hB_upd hy hx]
  · simp [setI_at, r7]
  · intro k hk; simp [setI_at, r20 k hk]
theorem sC_readSizes {Q : Int32 → St → Prop} (hρ : Ok ρ) (hF : ∀ k ∈ ([19] : List Nat), gF g k) (hB : Byt 17 1 18 B L S0) (hc : CtC B L S0 p R C ln h T t S) (hE : ∀ e S', pSizes B L p = .inl e → FlC e S0 S' → Q 0 S') (hO : ∀ s : Nat × Nat × Nat, ∀ S', pSizes B L p = .inr s → CtC B L S0 s.2.2 s.1 s.2.1 (ln + 1) h T t S' → Q 1 S') : CALLi g (d + 10) mX8_readSizes [.ref 19, .ref 17] ρ ρ S Q := by
  refine eX8_readSizes hρ hF ?_
  refine sC_passWord hρ hF (by decide) hB hc (fun e S' q f => ?_) (fun p1 S1 q1 hc1 => ?_)
  · rw [if_pos rfl]; exact hE e S' (by unfold pSizes; rw [bd_l q]) f
  rw [if_neg (by decide)]
  refine sC_passWord hρ hF (by decide) hB hc1 (fun e S' q f => ?_) (fun p2 S2 q2 hc2 => ?_)
  · rw [if_pos rfl]; exact hE e S' (by unfold pSizes; rw [bd_r q1, bd_l q]) f
  rw [if_neg (by decide)]
  refine sC_isNumber hρ hF hc2 (lo := 2) (hi := 4) rfl rfl (by decide) (by decide) (fun e S' q f => ?_) (fun r q3 v3 t3 => ?_)
  · rw [if_pos rfl]; exact hE e S' (by unfold pSizes; rw [bd_r q1, bd_r q2, bd_l q]) f
  rw [if_neg (by decide)]
  refine sC_adv hρ hF hB hc2 (fun S4 hc4 => ?_)
  rw [← t3] at hc4
  refine sC_passWord hρ hF (by decide) hB hc4 (fun e S' q f => ?_) (fun p5 S5 q5 hc5 => ?_)
  · rw [if_pos rfl]; exact hE e S' (by unfold pSizes; rw [bd_r q1, bd_r q2, bd_r q3, bd_l q]) f
  rw [if_neg (by decide)]
  refine sC_isNumber hρ hF hc5 (lo := 2) (hi := 4) rfl rfl (by decide) (by decide) (fun e S' q f => ?_) (fun c q6 v6 t6 => ?_)
  · rw [if_pos rfl]; exact hE e S' (by unfold pSizes; rw [bd_r q1, bd_r q2, bd_r q3, bd_r q5, bd_l q]) f
  rw [if_neg (by decide)]
  refine sC_adv hρ hF hB hc5 (fun S7 hc7 => ?_)
  rw [← t6] at hc7
  refine sC_passSign hρ hF hB hc7 (fun e S' q f => ?_) (fun p8 S8 q8 hc8 => ?_)
  · rw [if_pos rfl]; exact hE e S' (by unfold pSizes; rw [bd_r q1, bd_r q2, bd_r q3, bd_r q5, bd_r q6, bd_l q]) f
  rw [if_neg (by decide), v3, v6]
  exact hO (r.1, c.1, p8) _ (by unfold pSizes; rw [bd_r q1, bd_r q2, bd_r q3, bd_r q5, bd_r q6, bd_r q8]) (hc8.sizes r.1 c.1)
theorem pN_cap {lo a b : Nat} (hab : a ≤ b) {e : PF} (q : pN B L lo b p = .inl e) : pN B L lo a p = .inl e := by
  unfold pN at *
  split at q
  · rename_i k2
    rw [if_pos k2]
    split at q
    · exact absurd q (by intro z; cases z)
    · rw [if_neg (by omega)]; exact q
  · rename_i k2
    rw [if_neg k2]; exact q
theorem pN_in {lo a b : Nat} {v : Nat × Nat} (hv : v.1 ≤ a) (hp : p ≤ L) (q : pN B L lo b p = .inr v) : pN B L lo a p = .inr v := by
  obtain ⟨q1, q2, q3, q4, q5⟩ := pN_le hp q
  unfold pN
  rw [q4] at hv q2 ⊢
  rw [if_pos q5, if_pos ⟨q2, hv⟩]
theorem pN_out {lo a b : Nat} {v : Nat × Nat} (hv : a < v.1) (hp : p ≤ L) (q : pN B L lo b p = .inr v) : pN B L lo a p = .inl (2, tF B L p) := by
  obtain ⟨q1, q2, q3, q4, q5⟩ := pN_le hp q
  unfold pN
  rw [q4] at hv
  have hv : a < tV B L p := hv
  rw [if_pos q5, if_neg (by omega)]
theorem sC_readCounts {y : Nat} {Q : Int32 → St → Prop} (hρ : Ok ρ) (hF : ∀ k ∈ ([19, 20] : List Nat), gF g k) (hB : Byt 17 1 18 B L S0) (hI : CellsI y C 0 t T) (hc : CtC B L S0 p R C ln h T t S) (hE : ∀ e S', pRow B L C y t T p = .inl e → FlC e S0 S' → Q 0 S') (hO : ∀ r S', pRow B L C y t T p = .inr r → CtC B L S0 r.2.2 R C (ln + 1) h r.2.1 r.1 S' → Q 1 S') : CALLi g (d + 10) mX8_readCounts [.ref 19, .ref 17, .int (nI y)] ρ ρ S Q := by
  have hF1 : ∀ k ∈ ([19] : List Nat), gF g k := fun k hk => hF k (by simp at hk; simp [hk])
  refine eX8_readCounts hρ ?_
  refine sC_passWord hρ hF1 (by decide) hB hc (fun e S' q f => ?_) (fun p1 S1 q1 hc1 => ?_)
  · rw [if_pos rfl]; exact hE e S' (by unfold pRow; rw [bd_l q]) f
  rw [if_neg (by decide)]
  have key : ∀ n x t1 T1 p2 S2, x + n = C → CellsI y n x t1 T1 → CtC B L S0 p2 R C ln h T1 t1 S2 → pCells B L y n x t1 T1 p2 = pCells B L y C 0 t T p1 → AW g ρ (QI Q) (d + 10) mX8_readCounts 14 [(0, .ref 19), (1, .ref 17), (2, .int (nI y)), (3, .int (nI x))] [] ρ S2 := by
    intro n
    induction n with
    | zero =>
      intro x t1 T1 p2 S2 hx hI2 hc2 he
      have he : .inr (t1, T1, p2) = pCells B L y C 0 t T p1 := he
      refine eX8_readCounts_14 hρ hF ?_
      rw [hc2.2.1.2.2.2.1, if_pos (nI_le (by omega) (by have := hI2.2.2.2.1; omega))]
      refine sC_passSign hρ hF1 hB hc2 (fun e S' q f => ⟨Or.inl rfl, ?_⟩) (fun p3 S3 q3 hc3 => ⟨Or.inr rfl, ?_⟩)
      · exact hE e S' (by unfold pRow; rw [bd_r q1, bd_r he.symm, bd_l q]) f
      · exact hO (t1, T1, p3) S3 (by unfold pRow; rw [bd_r q1, bd_r he.symm, bd_r q3]) hc3
    | succ n ih =>
      intro x t1 T1 p2 S2 hx hI2 hc2 he
      have he : (bd (pN B L 0 (min (20 - T1) 9) p2) fun v => pCells B L y n (x + 1) (udt t1 y x v.1) (T1 + v.1) v.2) = pCells B L y C 0 t T p1 := he
      obtain ⟨i1, i2, i3, i4, i5, i6⟩ := hI2
      have hz : t1 y x = 0 := i6 y x (by omega)
      refine eX8_readCounts_14 hρ hF ?_
      rw [hc2.2.1.2.2.2.1, if_neg (nI_ge (by omega) (by omega))]
      refine sC_isNumber hρ hF1 hc2 (lo := 0) (hi := 9) rfl rfl (by decide) (by decide) (fun e S' q f => ?_) (fun v q3 v3 t3 => ?_)
      · rw [if_pos rfl]
        rw [bd_l (pN_cap (a := min (20 - T1) 9) (by omega) q)] at he
        exact hE e S' (by unfold pRow; rw [bd_r q1, bd_l he.symm]) f
      rw [if_neg (by decide), v3, hc2.2.1.2.2.2.2.2.2.1, nI_add]
      have hv := pN_le hc2.2.2.2 q3
      have lim : nI (T1 + v.1) ≤ (20 : Int32) ↔ T1 + v.1 ≤ 20 := nI_leI (b := 20) (by omega) (by omega)
      by_cases c : T1 + v.1 ≤ 20
      · rw [if_pos (lim.mpr c)]
        have e4 : (4 : Int32) * nI y + nI x = nI (4 * y + x) := by
          show nI 4 * nI y + nI x = _
          rw [pk_mul, nI_add]
        rw [e4, nI_clamp (by omega), nI_1]
        refine ⟨vp_in_nI (by omega) (by omega), sC_adv hρ hF1 hB (hc2.cell i5 (by omega)) (fun S4 hc4 => ?_)⟩
        rw [← t3] at hc4
        rw [bd_r (pN_in (a := min (20 - T1) 9) (by omega) hc2.2.2.2 q3)] at he
        refine ih (x + 1) _ _ _ S4 (by omega) ⟨?_, c, ?_, by omega, i5, ?_⟩ hc4 he
        · rw [tsum_upd i5 (by omega) hz, i1]
        · intro a b
          by_cases c : a = y ∧ b = x
          · rw [c.1, c.2, udt_s]; omega
          · rw [udt_n t1 _ c]; exact i3 a b
        · intro a b hab
          rw [udt_n t1 _ (by omega)]
          exact i6 a b (by omega)
      · rw [if_neg (fun z => c (lim.mp z))]
        rw [bd_l (pN_out (a := min (20 - T1) 9) (by omega) hc2.2.2.2 q3)] at he
        exact sC_fail hρ hF1 hc2 (k := 2) rfl (fun S' f => ⟨Or.inl rfl, hE _ S' (by unfold pRow; rw [bd_r q1, bd_l he.symm]) f⟩)
  exact key C 0 t T p1 S1 (by omega) hI hc1 rfl
theorem sC_readHole {Q : Int32 → St → Prop} (hρ : Ok ρ) (hF : ∀ k ∈ ([19] : List Nat), gF g k) (hB0 : Byt 17 1 18 B L S0) (hR : 2 ≤ R ∧ R ≤ 4) (hC : 2 ≤ C ∧ C ≤ 4) (ht9 : ∀ a b, t a b ≤ 9) (hc : CtC B L S0 p R C ln h T t S) (hE : ∀ e S', pHole B L R C t h p = .inl e → FlC e S0 S' → Q 0 S') (hO : ∀ r S', pHole B L R C t h p = .inr r → CtC B L S0 r.2 R C (ln + 1) r.1 T t S' → Q 1 S') : CALLi g (d + 10) mX8_readHole [.ref 19, .ref 17] ρ ρ S Q := by
  refine eX8_readHole hρ hF ?_
  refine sC_passWord hρ hF (by decide) hB0 hc (fun e S' q f => ?_) (fun p1 S1 q1 hc1 => ?_)
  · rw [if_pos rfl]; exact hE e S' (by unfold pHole; rw [bd_l q]) f
  rw [if_neg (by decide), hc1.2.1.2.2.1]
  refine sC_isNumber hρ hF hc1 (lo := 0) (hi := R - 1) rfl (pk_sub (b := 1) (by omega)) (by decide) (by omega) (fun e S' q f => ?_) (fun y q2 v2 t2 => ?_)
  · rw [if_pos rfl]; exact hE e S' (by unfold pHole; rw [bd_r q1, bd_l q]) f
  rw [if_neg (by decide)]
  have hy := pN_le hc1.2.2.2 q2
  refine sC_adv hρ hF hB0 hc1 (fun S3 hc3 => ?_)
  rw [← t2] at hc3
  rw [hc3.2.1.2.2.2.1]
  refine sC_isNumber hρ hF hc3 (lo := 0) (hi := C - 1) rfl (pk_sub (b := 1) (by omega)) (by decide) (by omega) (fun e S' q f => ?_) (fun x q4 v4 t4 => ?_)
  · rw [if_pos rfl]; exact hE e S' (by unfold pHole; rw [bd_r q1, bd_r q2]; unfold pX; rw [bd_l q]; rfl) f
  have hx := pN_le hc3.2.2.2 q4
  have e4 : (4 : Int32) * nI y.1 + nI x.1 = nI (4 * y.1 + x.1) := by
    show nI 4 * nI y.1 + nI x.1 = _
    rw [pk_mul, nI_add]
  have hl := hB_lt h
  rw [if_neg (by decide), v2, v4, e4, hc3.2.1.2.2.2.2.2.1, shr_bit (by omega) (by omega), hB_bit (by omega) (by omega)]
  have bad : (h y.1 x.1 = true ∨ t y.1 x.1 ≠ 0) → pHole B L R C t h p = .inl (2, tF B L y.2) := by
    intro z
    unfold pHole
    rw [bd_r q1, bd_r q2]
    unfold pX
    rw [bd_r q4, if_pos z]
    rfl
  cases ch : h y.1 x.1 with
  | true =>
    rw [if_pos rfl, if_neg (by decide)]
    exact sC_fail hρ hF hc3 (k := 2) rfl (fun S' f => ⟨Or.inl rfl, hE _ S' (bad (Or.inl ch)) f⟩)
  | false =>
    rw [if_pos (show nI (if false = true then 1 else 0) = 0 from rfl), nI_clamp (by omega), hc3.2.1.2.2.2.2.2.2.2 (4 * y.1 + x.1) (by omega), show (4 * y.1 + x.1) / 4 = y.1 by omega, show (4 * y.1 + x.1) % 4 = x.1 by omega]
    refine ⟨vp_in_nI (by omega) (by omega), ?_⟩
    have t9 := ht9 y.1 x.1
    have ez : nI (t y.1 x.1) = 0 ↔ t y.1 x.1 = 0 := nI_eq (b := 0) (by omega) (by omega)
    by_cases cz : t y.1 x.1 = 0
    · rw [if_pos (ez.mpr cz)]
      refine sC_adv hρ hF hB0 (hc3.hole (by omega) (by omega)) (fun S6 hc6 => ?_)
      rw [← t4] at hc6
      have ok : pX B L C t h y.1 y.2 = .inr x := by
        unfold pX
        rw [bd_r q4, if_neg (by rw [ch]; simp [cz])]
      refine sC_passSign hρ hF hB0 hc6 (fun e S' q f => ⟨Or.inl rfl, ?_⟩) (fun p7 S7 q7 hc7 => ⟨Or.inr rfl, ?_⟩)
      · exact hE e S' (by unfold pHole; rw [bd_r q1, bd_r q2, bd_r ok, bd_l q]) f
      · exact hO (udt h y.1 x.1 true, p7) S7 (by unfold pHole; rw [bd_r q1, bd_r q2, bd_r ok, bd_r q7]) hc7
    · rw [if_neg (fun z => cz (ez.mp z))]
      exact sC_fail hρ hF hc3 (k := 2) rfl (fun S' f => ⟨Or.inl rfl, hE _ S' (bad (Or.inr cz)) f⟩)
end R2
