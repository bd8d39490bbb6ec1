-- THE MODEL READS THE TEXT: rows and holes
theorem idx_iff {C y x k : Nat} (hx : x < C) : (k / C = y ∧ k % C = x) ↔ k = y * C + x := by
  constructor
  · intro h
    rw [← h.1, ← h.2, Nat.mul_comm]
    exact (Nat.div_add_mod k C).symm
  · intro h
    subst h
    have hC : 0 < C := by omega
    rw [Nat.mul_comm y C, Nat.mul_add_div hC, Nat.div_eq_of_lt hx, Nat.mul_add_mod, Nat.mod_eq_of_lt hx]
    exact ⟨Nat.add_zero y, rfl⟩
theorem flt_udt {C y x v k : Nat} {t : Nat → Nat → Nat} (hx : x < C) : flt C (udt t y x v) k = if k = y * C + x then v else flt C t k := by
  unfold flt udt
  by_cases c : k = y * C + x
  · rw [if_pos c, if_pos ((idx_iff hx).mpr c)]
  · rw [if_neg c, if_neg (fun z => c ((idx_iff hx).mp z))]
theorem hm_lt {R C : Nat} (hR : R ≤ 4) (hC : C ≤ 4) (h : Nat → Nat → Bool) : hm R C h < 65536 := by
  have e := mul44 hR hC
  exact Nat.lt_of_lt_of_le (bsum_lt _ (R * C)) (Nat.pow_le_pow_right (by decide) (show R * C ≤ 16 by omega))
theorem hm_bit {R C y x : Nat} {h : Nat → Nat → Bool} (hy : y < R) (hx : x < C) : (hm R C h).testBit (y * C + x) = h y x := by
  unfold hm
  rw [bsum_bit, ((idx_iff hx).mpr rfl).1, ((idx_iff hx).mpr rfl).2]
  simp [idx_lt hy hx]
theorem hm_udt {R C y x : Nat} {h : Nat → Nat → Bool} (hy : y < R) (hx : x < C) : hm R C (udt h y x true) = hm R C h ||| 2 ^ (y * C + x) := by
  refine bsum_or (idx_lt hy hx) (fun i => ?_)
  unfold udt
  by_cases c : i = y * C + x
  · rw [if_pos ((idx_iff hx).mpr c)]; simp [c]
  · rw [if_neg (fun z => c ((idx_iff hx).mp z))]; simp [c]
section M4
variable {g : GX} {d : Nat} {ρ : Rs} {B : Nat → Nat} {L : Nat} {S0 S : St} {p R C ln : Nat} {h : Nat → Nat → Bool} {T : Nat} {t : Nat → Nat → Nat}
theorem BdM.tot {e : PF} (hb : BdM e S0 S) (v : Int32) : BdM e S0 (setI S 80 11 v) := by
  refine ⟨?_, ?_, ?_, hb.2.2.2.tr (Fr.setI _ _ _ (Or.inl rfl))⟩
  · rw [setI_at, if_neg (fun z => absurd z.2 (by decide))]; exact hb.1
  · rw [setI_at, if_neg (fun z => absurd z.2 (by decide))]; exact hb.2.1
  · rw [setI_at, if_neg (fun z => absurd z.2 (by decide))]; exact hb.2.2.1
theorem CtM.cell (hc : CtM B L S0 p R C ln h T t S) {y x v : Nat} (hx : x < C) : CtM B L S0 p R C ln h (T + v) (udt t y x v) (setI (setI S 81 (5 + (y * C + x)) (nI v)) 80 11 (nI (T + v))) := by
  refine CtM.tot (T := T) (hc.mem ?_)
  obtain ⟨r11, r0, r1, r2, r3, r4, r5⟩ := hc.2.1
  have e0 : ∀ j, j < 5 → ¬ j = 5 + (y * C + x) := fun j hj => by omega
  refine ⟨?_, ?_, ?_, ?_, ?_, ?_, fun k hk => ?_⟩
  · simp [setI_at, r11]
  · rw [setI_at, if_neg (fun z => e0 0 (by omega) z.2)]; exact r0
  · rw [setI_at, if_neg (fun z => e0 1 (by omega) z.2)]; exact r1
  · rw [setI_at, if_neg (fun z => e0 2 (by omega) z.2)]; exact r2
  · rw [setI_at, if_neg (fun z => e0 3 (by omega) z.2)]; exact r3
  · rw [setI_at, if_neg (fun z => e0 4 (by omega) z.2)]; exact r4
  · rw [setI_at, flt_udt hx]
    by_cases c : k = y * C + x
    · rw [if_pos ⟨rfl, by omega⟩, if_pos c]
    · rw [if_neg (fun z => c (by omega)), if_neg c]; exact r5 k hk
theorem sM_readsRow {y : Nat} {Q : St → Prop} (hρ : Ok ρ) (hF : ∀ k ∈ ([81, 80] : List Nat), gF g k) (hI : CellsI y C 0 t T) (hc : CtM B L S0 p R C ln h T t S) (hE : ∀ e S', pRow B L C y t T p = .inl e → BdM e S0 S' → Q S') (hO : ∀ t' T' p' S', pRow B L C y t T p = (bd (pS B L p') fun p3 => .inr (t', T', p3)) → CellsI y 0 C t' T' → CtM B L S0 p' R C ln h T' t' S' → Q S') : CALLv g (d + 6) mX12_readsRow [.ref 80, .int (nI y)] ρ ρ S Q := by
  have hF0 : ∀ k ∈ ([80] : List Nat), gF g k := fun k hk => hF k (by simp at hk; simp [hk])
  have hC4 : C ≤ 4 := by have := hI.2.2.2.1; omega
  have hy4 : y < 4 := hI.2.2.2.2.1
  refine eX12_readsRow hρ (sM_word hρ (by decide) hc (fun v0 hv0 => ?_))
  have bad12 : ∀ e x2 S1, pRow B L C y t T p = .inl e → BdM e S0 S1 → AW g ρ (QV Q) (d + 6) mX12_readsRow 12 [(0, .ref 80), (1, .int (nI y)), (2, .int x2)] [] ρ S1 := by
    intro e x2 S1 he hb
    refine eX12_readsRow_12 hρ hF ?_
    rw [if_neg hb.ne]
    split
    · exact hE e S1 he hb
    · exact hE e S1 he hb
  refine sM_passes hρ hF0 hc (fun z S1 b1 _ => ?_) (fun z S1 c1 => ?_)
  · refine bad12 _ _ S1 ?_ b1
    rcases hv0 with q | q
    · unfold pRow; rw [bd_l q.2]
    · rw [q.1] at z; exact absurd z (by decide)
  have q1 : pW B L 3 p = .inr (tT B L p) := by
    rcases hv0 with q | q
    · exact absurd q.1 z
    · exact q.2
  have key : ∀ n x t1 T1 p2 S2, x + n = C → CellsI y n x t1 T1 → CtM B L S0 p2 R C ln h T1 t1 S2 → pCells B L y n x t1 T1 p2 = pCells B L y C 0 t T (tT B L p) → AW g ρ (QV Q) (d + 6) mX12_readsRow 12 [(0, .ref 80), (1, .int (nI y)), (2, .int (nI x))] [] ρ S2 := by
    intro n
    induction n with
    | zero =>
      intro x t1 T1 p2 S2 hx hI2 hc2 he
      have he : .inr (t1, T1, p2) = pCells B L y C 0 t T (tT B L p) := he
      refine eX12_readsRow_12 hρ hF ?_
      rw [hc2.2.1.2.2.1, if_pos (nI_le (by omega) (by omega))]
      have hx : x = C := hx
      subst hx
      exact hO t1 T1 p2 S2 (by unfold pRow; rw [bd_r q1, bd_r he.symm]) hI2 hc2
    | succ n ih =>
      intro x t1 T1 p2 S2 hx hI2 hc2 he
      have he : (bd (pN B L 0 (min (20 - T1) 9) p2) fun v => pCells B L y n (x + 1) (udt t1 y x v.1) (T1 + v.1) v.2) = pCells B L y C 0 t T (tT B L p) := he
      obtain ⟨i1, i2, i3, i4, i5, i6⟩ := hI2
      have hz : t1 y x = 0 := i6 y x (by omega)
      have hxC : x < C := by omega
      have em : (if (20 - nI T1 : Int32) < 9 then 20 - nI T1 else 9) = nI (min (20 - T1) 9) := by
        have es : (20 - nI T1 : Int32) = nI (20 - T1) := pk_sub (a := 20) i2
        rw [es]
        have el : nI (20 - T1) < (9 : Int32) ↔ 20 - T1 < 9 := nI_ltI (b := 9) (by omega) (by omega)
        by_cases c : 20 - T1 < 9
        · rw [if_pos (el.mpr c)]; congr 1; omega
        · rw [if_neg (fun z => c (el.mp z))]; show nI 9 = _; congr 1; omega
      have hi16 : y * C + x < 16 := by
        have : y * C ≤ 3 * C := Nat.mul_le_mul_right C (by omega)
        omega
      have e5 : ∀ m : Nat, (5 : Int32) + nI m = nI (5 + m) := fun m => nI_add 5 m
      refine eX12_readsRow_12 hρ hF ?_
      rw [hc2.2.1.2.2.1, if_neg (nI_ge (by omega) (by omega)), if_pos hc2.2.2.1.2.2, hc2.2.1.1, em]
      refine sM_reads hρ hF0 hc2 (lo := 0) rfl rfl (by decide) (by omega) (fun e v S3 q b3 hm => ?_) (fun v S3 q3 c3 => ?_)
      · rw [bd_l q] at he
        refine eX12_place hρ ?_
        rw [hm, hc2.2.1.2.2.1, pk_mul, nI_add, e5, nI_clamp (by omega)]
        refine ⟨vp_in_nI (by omega) (by omega), bad12 e _ _ (by unfold pRow; rw [bd_r q1, bd_l he.symm]) ((b3.set _ _).tot _)⟩
      · have hv := pN_le hc2.2.2.2 q3
        rw [bd_r q3] at he
        refine eX12_place hρ ?_
        rw [c3.2.1.2.2.1, pk_mul, nI_add, e5, nI_clamp (by omega), c3.2.1.1, nI_add, nI_1]
        refine ⟨vp_in_nI (by omega) (by omega), ih (x + 1) _ _ _ _ (by omega) ⟨?_, ?_, ?_, by omega, i5, ?_⟩ (c3.cell hxC) he⟩
        · rw [tsum_upd i5 (by omega) hz, i1]
        · omega
        · intro a b
          by_cases c : a = y ∧ b = x
          · rw [c.1, c.2, udt_s]; omega
          · rw [udt_n t1 _ c]; exact i3 a b
        · intro a b hab
          rw [udt_n t1 _ (by omega)]
          exact i6 a b (by omega)
  exact key C 0 t T _ S1 (by omega) hI c1 rfl
theorem sM_readsHole {Q : St → Prop} (hρ : Ok ρ) (hF : ∀ k ∈ ([80, 81] : List Nat), gF g k) (hR : 2 ≤ R ∧ R ≤ 4) (hC : 2 ≤ C ∧ C ≤ 4) (ht9 : ∀ a b, t a b ≤ 9) (hc : CtM B L S0 p R C ln h T t S) (hE : ∀ e S', pHole B L R C t h p = .inl e → BdM e S0 S' → Q S') (hO : ∀ h' p' S', pHole B L R C t h p = (bd (pS B L p') fun p4 => .inr (h', p4)) → CtM B L S0 p' R C ln h' T t S' → Q S') : CALLv g (d + 6) mX12_readsHole [.ref 80] ρ ρ S Q := by
  have hF0 : ∀ k ∈ ([80] : List Nat), gF g k := fun k hk => hF k (by simp at hk; simp [hk])
  have hF1 : ∀ k ∈ ([81] : List Nat), gF g k := fun k hk => hF k (by simp at hk; simp [hk])
  have bad34 : ∀ e v S1, pHole B L R C t h p = .inl e → BdM e S0 S1 → AW g ρ (QV Q) (d + 6) mX12_readsHole 34 [(0, .ref 80)] [.int v] ρ S1 := by
    intro e v S1 he hb
    refine eX12_readsHole_34 hρ ?_
    rw [if_neg hb.ne]
    exact hE e S1 he hb
  have bad109 : ∀ e v S1, pHole B L R C t h p = .inl e → BdM e S0 S1 → AW g ρ (QV Q) (d + 6) mX12_readsHole 109 [(0, .ref 80), (1, .int v)] [] ρ S1 := by
    intro e v S1 he hb
    refine eX12_readsHole_109 hρ hF1 (sM_readsB hρ hF0 hb.ne (fun w => ?_))
    rw [if_neg hb.ne]
    exact hE e _ he (hb.set 2 _)
  refine eX12_readsHole hρ (sM_word hρ (by decide) hc (fun v0 hv0 => ?_))
  refine sM_passes hρ hF0 hc (fun z S1 b1 _ => ?_) (fun z S1 c1 => ?_)
  · rw [if_neg b1.ne]
    refine bad34 _ _ S1 ?_ b1
    rcases hv0 with q | q
    · unfold pHole; rw [bd_l q.2]
    · rw [q.1] at z; exact absurd z (by decide)
  have q1 : pW B L 4 p = .inr (tT B L p) := by
    rcases hv0 with q | q
    · exact absurd q.1 z
    · exact q.2
  rw [if_pos c1.2.2.1.2.2, c1.2.1.2.1]
  refine sM_reads hρ hF0 c1 (lo := 0) (hi := R - 1) rfl (pk_sub (b := 1) (by omega)) (by decide) (by omega) (fun e v S2 q b2 _ => ?_) (fun y S2 q2 c2 => ?_)
  · exact bad34 e _ S2 (by unfold pHole; rw [bd_r q1, bd_l q]) b2
  have hy := pN_le c1.2.2.2 q2
  have hl := hm_lt hR.2 hC.2 h
  -- the end, where no hole and no count is in the way
  have a109 : (∀ x, pN B L 0 (C - 1) y.2 = .inr x → h y.1 x.1 = false ∧ t y.1 x.1 = 0) → AW g ρ (QV Q) (d + 6) mX12_readsHole 109 [(0, .ref 80), (1, .int (nI y.1))] [] ρ S2 := by
    intro hgood
    refine eX12_readsHole_109 hρ hF1 ?_
    rw [c2.2.1.2.2.1]
    refine sM_reads hρ hF0 c2 (lo := 0) (hi := C - 1) rfl (pk_sub (b := 1) (by omega)) (by decide) (by omega) (fun e v S3 q b3 _ => ?_) (fun x S3 q3 c3 => ?_)
    · rw [if_neg b3.ne]
      refine hE e _ ?_ (b3.set 2 _)
      unfold pHole
      rw [bd_r q1, bd_r q2]
      unfold pX
      rw [bd_l q]
      rfl
    · have hx := pN_le c2.2.2.2 q3
      have hg := hgood x q3
      have hi := idx_lt (show y.1 < R by omega) (show x.1 < C by omega)
      have h44 := mul44 hR.2 hC.2
      rw [if_pos c3.2.2.1.2.2]
      refine eX12_place hρ ?_
      rw [c3.2.1.2.2.1, pk_mul, nI_add, c3.2.1.2.2.2.1, shl1 (by omega), fa_or, ← hm_udt (by omega) (by omega)]
      refine hO (udt h y.1 x.1 true) x.2 _ ?_ (c3.mem ?_)
      · unfold pHole
        rw [bd_r q1, bd_r q2]
        have ok : pX B L C t h y.1 y.2 = .inr x := by
          unfold pX
          rw [bd_r q3, if_neg (by rw [hg.1, hg.2]; simp)]
        rw [bd_r ok]
      · obtain ⟨r11, r0, r1, r2, r3, r4, r5⟩ := c3.2.1
        refine ⟨?_, ?_, ?_, ?_, ?_, ?_, fun k hk => ?_⟩
        · simp [setI_at, r11]
        · simp [setI_at, r0]
        · simp [setI_at, r1]
        · simp [setI_at]
        · simp [setI_at, r3]
        · simp [setI_at, r4]
        · have e : ¬ 5 + k = 2 := by omega
          simp [setI_at, e, r5 k hk]
  refine eX12_readsHole_34 hρ ?_
  have hk := kdA_le B L (tF B L y.2)
  have hk : tK B L y.2 ≤ 4 := hk
  have i2 : nI (tK B L y.2) = 2 ↔ tK B L y.2 = 2 := nI_eq (b := 2) (by omega) (by omega)
  rw [if_pos c2.2.2.1.2.2, c2.1.1]
  by_cases k2 : tK B L y.2 = 2
  · rw [if_pos (i2.mpr k2), c2.1.2.2.2 k2, c2.2.1.2.2.1]
    have hmn : min (tV B L y.2) 99999 ≤ 99999 := Nat.min_le_right _ _
    by_cases cv : C ≤ tV B L y.2
    · rw [if_pos (nI_le (by omega) (by omega))]
      refine a109 (fun x q => ?_)
      obtain ⟨z1, z2, z3, z4, z5⟩ := pN_le c2.2.2.2 q
      rw [z4] at z3
      have z3 : tV B L y.2 ≤ C - 1 := z3
      omega
    · rw [if_neg (nI_ge (by omega) (by omega))]
      have em : min (tV B L y.2) 99999 = tV B L y.2 := by omega
      have hi := idx_lt (show y.1 < R by omega) (show tV B L y.2 < C by omega)
      have h44 := mul44 hR.2 hC.2
      have qx : pN B L 0 (C - 1) y.2 = .inr (tV B L y.2, tT B L y.2) := by
        unfold pN
        rw [if_pos k2, if_pos (by omega)]
      have bad : (h y.1 (tV B L y.2) = true ∨ t y.1 (tV B L y.2) ≠ 0) → pHole B L R C t h p = .inl (2, tF B L y.2) := by
        intro z
        unfold pHole
        rw [bd_r q1, bd_r q2]
        unfold pX
        rw [bd_r qx, if_pos z]
        rfl
      rw [em]
      refine eX12_place hρ ?_
      rw [c2.2.1.2.2.1, pk_mul, nI_add, c2.2.1.2.2.2.1]
      refine sM_has hρ (by omega) (by omega) ?_
      rw [hm_bit (by omega) (by omega)]
      cases ch : h y.1 (tV B L y.2) with
      | true =>
        rw [if_pos rfl, if_neg (by decide)]
        exact sM_faults hρ hF0 c2 (k := 2) rfl (fun S3 b3 _ => bad109 _ _ S3 (bad (Or.inl ch)) b3)
      | false =>
        rw [if_pos (show (if false = true then (1 : Int32) else 0) = 0 from rfl), c2.1.2.2.2 k2, em]
        refine eX12_place hρ ?_
        have e5 : ∀ m : Nat, (5 : Int32) + nI m = nI (5 + m) := fun m => nI_add 5 m
        have t9 := ht9 y.1 (tV B L y.2)
        have ef : flt C t (y.1 * C + tV B L y.2) = t y.1 (tV B L y.2) := by
          unfold flt
          rw [((idx_iff (show tV B L y.2 < C by omega)).mpr rfl).1, ((idx_iff (show tV B L y.2 < C by omega)).mpr rfl).2]
        rw [c2.2.1.2.2.1, pk_mul, nI_add, e5, nI_clamp (by omega), c2.2.1.2.2.2.2.2.2 _ (by omega), ef]
        refine ⟨vp_in_nI (by omega) (by omega), ?_⟩
        have ez : nI (t y.1 (tV B L y.2)) ≤ 0 ↔ t y.1 (tV B L y.2) ≤ 0 := nI_leI (b := 0) (by omega) (by omega)
        by_cases cz : t y.1 (tV B L y.2) = 0
        · rw [if_pos (ez.mpr (by omega))]
          refine a109 (fun x q => ?_)
          rw [qx] at q
          injection q with q
          rw [← q]
          exact ⟨ch, cz⟩
        · rw [if_neg (fun z => cz (by have := ez.mp z; omega))]
          exact sM_faults hρ hF0 c2 (k := 2) rfl (fun S3 b3 _ => bad109 _ _ S3 (bad (Or.inr cz)) b3)
  · rw [if_neg (fun z => k2 (i2.mp z))]
    refine a109 (fun x q => ?_)
    exact absurd (pN_le c2.2.2.2 q).2.2.2.2 k2
end M4
