-- THE MODEL'S TABLE
def F82 (k : Nat) : Prop := k = 80 ∨ k = 81 ∨ k = 82
section M5
variable {g : GX} {d : Nat} {ρ : Rs} {B : Nat → Nat} {L : Nat} {S : St}
theorem sM_table {Q : Int32 → St → Prop} (hρ : Ok ρ) (hF : ∀ k ∈ ([80, 82, 81] : List Nat), gF g k) (hB0 : Byt 80 4 84 B L S)
    (hE : ∀ e S', parse B L = .inl e → (S'.1 80 4 = 0 ∧ S'.1 80 5 = nI e.1 ∧ S'.1 80 6 = nI e.2) → (∀ j, j < 21 → S'.1 81 j = S.1 81 j) → Fr F82 S S' → Q (-4) S')
    (hO : ∀ r S', parse B L = .inr r → (S'.1 80 4 = 0 ∧ S'.1 80 5 = 0 ∧ S'.1 80 6 = -1) → (∃ T, RdM r.1.1 r.1.2.1 r.1.2.2 r.2.1 T r.2.2 S') → Fr F82 S S' → Q (nI r.1.2.2) S') : CALLi g (d + 7) mX12_table [.ref 80] ρ ρ S Q := by
  have hF80 : ∀ k ∈ ([80] : List Nat), gF g k := fun k hk => hF k (by simp at hk; simp [hk])
  have hF81 : ∀ k ∈ ([81] : List Nat), gF g k := fun k hk => hF k (by simp at hk; simp [hk])
  have hFa : ∀ k ∈ ([80, 81] : List Nat), gF g k := fun k hk => hF k (by simp at hk; rcases hk with q | q <;> simp [q])
  have hFb : ∀ k ∈ ([81, 80] : List Nat), gF g k := fun k hk => hF k (by simp at hk; rcases hk with q | q <;> simp [q])
  refine eX12_table hρ ?_
  -- once mem is kept and cleared
  have rest : ∀ S0, (∀ j, j < 21 → S0.1 82 j = S.1 81 j) → (∀ j, j < 21 → S0.1 81 j = 0) → Fr (fun k => k = 81 ∨ k = 82) S S0 → AW g ρ (QI Q) (d + 7) mX12_table 2 [(0, .ref 80), (1, .int (nI 21))] [] ρ S0 := by
    intro S0 k82 k81 fr0
    -- mem comes back
    have bad205 : ∀ n j e S1, j + n = 21 → parse B L = .inl e → (S1.1 80 4 = 0 ∧ S1.1 80 5 = nI e.1 ∧ S1.1 80 6 = nI e.2) → (∀ i, i < j → S1.1 81 i = S.1 81 i) → Fr F81 S0 S1 → AW g ρ (QI Q) (d + 7) mX12_table 205 [(0, .ref 80), (2, .int (nI j))] [] ρ S1 := by
      intro n
      induction n with
      | zero =>
        intro j e S1 hj he h1 h2 h3
        refine eX12_table_205 hρ hF81 ?_
        rw [if_pos (show (21 : Int32) ≤ nI j from nI_le (a := 21) (by omega) (by omega))]
        exact hE e S1 he h1 (fun i hi => h2 i (by omega)) ((fr0.mono (fun k hk => Or.inr hk)).tr (h3.mono (fun k hk => hk.elim Or.inl (fun q => Or.inr (Or.inl q)))))
      | succ n ih =>
        intro j e S1 hj he h1 h2 h3
        refine eX12_table_205 hρ hF81 ?_
        rw [if_neg (show ¬ (21 : Int32) ≤ nI j from nI_ge (b := 21) (by omega) (by omega)), nI_clamp (by omega), nI_1, (h3 82 (by unfold F81; omega)).1, k82 j (by omega)]
        refine ⟨vp_in_nI (by omega) (by omega), vp_in_nI (by omega) (by omega), ih (j + 1) e _ (by omega) he ?_ (fun i hi => ?_) (h3.tr (Fr.setI _ _ _ (Or.inr rfl)))⟩
        · rw [setI_ne _ _ _ (by decide)]; exact h1
        · rw [setI_at]
          by_cases c : i = j
          · rw [if_pos ⟨rfl, c⟩, c]
          · rw [if_neg (fun z => c z.2)]; exact h2 i (by omega)
    have bad65 : ∀ e S1, parse B L = .inl e → BdM e S0 S1 → AW g ρ (QI Q) (d + 7) mX12_table 65 [(0, .ref 80), (1, .int 0)] [] ρ S1 := by
      intro e S1 he hb
      refine eX12_table_65 hρ hF80 ?_
      rw [if_pos rfl, if_neg hb.ne]
      refine bad205 21 0 e _ (by omega) he ⟨?_, ?_, ?_⟩ (fun i hi => by omega) (hb.2.2.2.tr (Fr.setI _ _ _ (Or.inl rfl)))
      · simp [setI_at]
      · simp [setI_at, hb.2.1]
      · simp [setI_at, hb.2.2.1]
    have bad140 : ∀ e S1, parse B L = .inl e → BdM e S0 S1 → AW g ρ (QI Q) (d + 7) mX12_table 140 [(0, .ref 80)] [.int 1, .ref 80] ρ S1 := by
      intro e S1 he hb
      refine eX12_table_140 hρ hF81 (sM_passesB hρ hF80 hb.ne ?_)
      rw [if_neg hb.ne]
      exact bad65 e _ he (hb.set 3 _)
    have ok140 : ∀ p R C ln h T t S1 v, CtM B L S0 p R C ln h T t S1 → R < 100 → ln < 100 → (v = 1 ∧ tK B L p = 3 ∨ v = 0 ∧ tK B L p ≠ 3) → (tK B L p ≠ 3 → parse B L = .inl (1, tF B L p)) → (tK B L p = 3 → ∀ S2 x, CtM B L S0 (tT B L p) R C (ln + 1) h T t S2 → (x = 0 ∧ tK B L (tT B L p) = 0 ∧ R < ln + 1 ∨ x = 1 ∧ ¬ (tK B L (tT B L p) = 0 ∧ R < ln + 1)) → AW g ρ (QI Q) (d + 7) mX12_table 65 [(0, .ref 80), (1, .int x)] [] ρ S2) → AW g ρ (QI Q) (d + 7) mX12_table 140 [(0, .ref 80)] [.int v, .ref 80] ρ S1 := by
      intro p R C ln h T t S1 v hc hR hln hv hbad hok
      refine eX12_table_140 hρ hF81 ?_
      refine sM_passes hρ hF80 hc (fun z S2 b2 _ => ?_) (fun z S2 c2 => ?_)
      · rw [if_neg b2.ne]
        have h3 : tK B L p ≠ 3 := by
          rcases hv with q | q
          · rw [q.1] at z; exact absurd z (by decide)
          · exact q.2
        exact bad65 _ _ (hbad h3) (b2.set 3 _)
      · have h3 : tK B L p = 3 := by
          rcases hv with q | q
          · exact q.2
          · exact absurd q.1 z
        have c3 : CtM B L S0 (tT B L p) R C (ln + 1) h T t (setI S2 81 3 (nI (ln + 1))) := by
          refine c2.mem ?_
          obtain ⟨r11, r0, r1, r2, r3, r4, r5⟩ := c2.2.1
          refine ⟨?_, ?_, ?_, ?_, ?_, ?_, fun k hk => ?_⟩
          · simp [setI_at, r11]
          · simp [setI_at, r0]
          · simp [setI_at, r1]
          · simp [setI_at, r2]
          · simp [setI_at]
          · simp [setI_at, r4]
          · have e : ¬ 5 + k = 3 := by omega
            simp [setI_at, e, r5 k hk]
        have hk := kdA_le B L (tF B L (tT B L p))
        have hk : tK B L (tT B L p) ≤ 4 := hk
        have i0 : nI (tK B L (tT B L p)) = 0 ↔ tK B L (tT B L p) = 0 := nI_eq (b := 0) (by omega) (by omega)
        have iR : nI R < nI (ln + 1) ↔ R < ln + 1 := nI_ltI (by omega) (by omega)
        rw [if_pos c2.2.2.1.2.2, c2.1.1, c2.2.1.2.1, c2.2.1.2.2.2.2.1, nI_1]
        by_cases c0 : tK B L (tT B L p) = 0
        · rw [if_pos (i0.mpr c0)]
          by_cases cR : R < ln + 1
          · rw [if_pos (iR.mpr cR)]
            exact hok h3 _ 0 c3 (Or.inl ⟨rfl, c0, cR⟩)
          · rw [if_neg (fun z => cR (iR.mp z))]
            exact hok h3 _ 1 c3 (Or.inr ⟨rfl, fun z => cR z.2⟩)
        · rw [if_neg (fun z => c0 (i0.mp z))]
          exact hok h3 _ 1 c3 (Or.inr ⟨rfl, fun z => c0 z.1⟩)
    have okEnd : ∀ p R C ln h T t S1, CtM B L S0 p R C ln h T t S1 → parse B L = .inr ((R, C, ln), h, t) → AW g ρ (QI Q) (d + 7) mX12_table 65 [(0, .ref 80), (1, .int 0)] [] ρ S1 := by
      intro p R C ln h T t S1 hc he
      refine eX12_table_65 hρ hF80 ?_
      obtain ⟨r11, r0, r1, r2, r3, r4, r5⟩ := hc.2.1
      rw [if_pos rfl, if_pos hc.2.2.1.2.2, r3]
      refine hO ((R, C, ln), h, t) _ he ⟨?_, ?_, ?_⟩ ⟨T, ?_, ?_, ?_, ?_, ?_, ?_, fun k hk => ?_⟩ ?_
      · simp [setI_at]
      · simp [setI_at]
      · simp [setI_at]
      · simp [setI_at, r11]
      · simp [setI_at, r0]
      · simp [setI_at, r1]
      · simp [setI_at, r2]
      · simp [setI_at, r3]
      · simp [setI_at, r4]
      · simp [setI_at, r5 k hk]
      · exact (((fr0.mono (fun k hk => Or.inr hk)).tr (hc.2.2.1.1.mono (fun k hk => hk.elim Or.inl (fun q => Or.inr (Or.inl q))))).tr (((Fr.setI _ _ _ (Or.inl rfl)).tr (Fr.setI _ _ _ (Or.inl rfl))).tr (Fr.setI _ _ _ (Or.inl rfl))))
    have sgn : ∀ p S1, LexM B L p S1 → (S1.1 80 9 = 3 ↔ tK B L p = 3) := by
      intro p S1 hl
      have hk := kdA_le B L (tF B L p)
      have hk : tK B L p ≤ 4 := hk
      rw [hl.1]
      exact nI_eq (b := 3) (by omega) (by omega)
    have pS1 : ∀ p, tK B L p = 3 → pS B L p = .inr (tT B L p) := fun p q => by unfold pS; rw [if_pos q]
    have pS0 : ∀ p, tK B L p ≠ 3 → pS B L p = .inl (1, tF B L p) := fun p q => by unfold pS; rw [if_neg q]
    -- what 65 does behind a line that is read
    have aft : ∀ p R C ln h T t S1, CtM B L S0 p R C ln h T t S1 → R < 100 → ln < 100 → (tK B L p ≠ 3 → parse B L = .inl (1, tF B L p)) → (tK B L p = 3 → ∀ S2 x, CtM B L S0 (tT B L p) R C (ln + 1) h T t S2 → (x = 0 ∧ tK B L (tT B L p) = 0 ∧ R < ln + 1 ∨ x = 1 ∧ ¬ (tK B L (tT B L p) = 0 ∧ R < ln + 1)) → AW g ρ (QI Q) (d + 7) mX12_table 65 [(0, .ref 80), (1, .int x)] [] ρ S2) → (if (S1.1 80 12) = 0 then if (S1.1 80 9) = 3 then AW g ρ (QI Q) (d + 7) mX12_table 140 [(0, .ref 80)] [.int 1, .ref 80] ρ S1 else AW g ρ (QI Q) (d + 7) mX12_table 140 [(0, .ref 80)] [.int 0, .ref 80] ρ S1 else AW g ρ (QI Q) (d + 7) mX12_table 140 [(0, .ref 80)] [.int 1, .ref 80] ρ S1) := by
      intro p R C ln h T t S1 hc hR hln hbad hok
      rw [if_pos hc.2.2.1.2.2]
      by_cases c : tK B L p = 3
      · rw [if_pos ((sgn p S1 hc.1).mpr c)]
        exact ok140 p R C ln h T t S1 1 hc hR hln (Or.inl ⟨rfl, c⟩) hbad hok
      · rw [if_neg (fun z => c ((sgn p S1 hc.1).mp z))]
        exact ok140 p R C ln h T t S1 0 hc hR hln (Or.inr ⟨rfl, c⟩) hbad hok
    have aftB : ∀ e S1, parse B L = .inl e → BdM e S0 S1 → (if (S1.1 80 12) = 0 then if (S1.1 80 9) = 3 then AW g ρ (QI Q) (d + 7) mX12_table 140 [(0, .ref 80)] [.int 1, .ref 80] ρ S1 else AW g ρ (QI Q) (d + 7) mX12_table 140 [(0, .ref 80)] [.int 0, .ref 80] ρ S1 else AW g ρ (QI Q) (d + 7) mX12_table 140 [(0, .ref 80)] [.int 1, .ref 80] ρ S1) := by
      intro e S1 he hb
      rw [if_neg hb.ne]
      exact bad140 e S1 he hb
    refine eX12_table_2 hρ hF ?_
    rw [if_pos (show (21 : Int32) ≤ nI 21 from nI_le (a := 21) (by omega) (by omega))]
    have hB1 : Byt 80 4 84 B L (setI (setI (setI S0 80 7 0) 80 12 0) 80 11 0) := by
      refine ⟨?_, fun i hi => ?_, hB0.2.2⟩
      · simp [setI_at]; rw [(fr0 80 (by omega)).1]; exact hB0.1
      · simp [setI_at]; rw [(fr0 84 (by omega)).1]; exact hB0.2.1 i hi
    refine sM_next hρ hF80 hB1 (p := 0) (Nat.zero_le _) (by simp [setI_at]; rfl) (fun S2 l2 j2 => ?_)
    have bz : hm 0 0 h0 = 0 := rfl
    have c2 : CtM B L S0 0 0 0 0 h0 0 t0 S2 := by
      refine ⟨l2, ⟨?_, ?_, ?_, ?_, ?_, ?_, fun k hk => ?_⟩, ⟨?_, hB1.m j2 (by omega), ?_⟩, Nat.zero_le _⟩
      · rw [j2.2.2 11 (by omega)]; simp [setI_at]; rfl
      · rw [(j2.1 81 (by decide)).1]; simp [setI_at]; rw [k81 0 (by omega)]; rfl
      · rw [(j2.1 81 (by decide)).1]; simp [setI_at]; rw [k81 1 (by omega)]; rfl
      · rw [(j2.1 81 (by decide)).1, bz]; simp [setI_at]; rw [k81 2 (by omega)]; rfl
      · rw [(j2.1 81 (by decide)).1]; simp [setI_at]; rw [k81 3 (by omega)]; rfl
      · rw [(j2.1 81 (by decide)).1]; simp [setI_at]; rw [k81 4 (by omega)]
      · rw [(j2.1 81 (by decide)).1]; simp [setI_at]; rw [k81 (5 + k) (by omega)]; rfl
      · exact (((Fr.setI _ _ _ (Or.inl rfl)).tr (Fr.setI _ _ _ (Or.inl rfl))).tr (Fr.setI _ _ _ (Or.inl rfl))).tr (j2.1.mono (fun k hk => Or.inl hk))
      · rw [j2.2.2 12 (by omega)]; simp [setI_at]
    have hk := kdA_le B L (tF B L 0)
    have hk : tK B L 0 ≤ 4 := hk
    have i0 : nI (tK B L 0) = 0 ↔ tK B L 0 = 0 := nI_eq (b := 0) (by omega) (by omega)
    rw [l2.1]
    by_cases c0 : tK B L 0 = 0
    · rw [if_pos (i0.mpr c0)]
      exact okEnd 0 0 0 0 h0 0 t0 S2 c2 (by unfold parse; rw [if_pos c0])
    rw [if_neg (fun z => c0 (i0.mp z))]
    have eP : parse B L = bd (pSizes B L 0) fun s => bd (pRows B L s.2.1 s.1 0 t0 0 s.2.2) fun r => bd (pHoles B L s.1 s.2.1 r.1 17 h0 (1 + s.1) r.2.2) fun q => .inr ((s.1, s.2.1, q.2), q.1, r.1) := by
      unfold parse; rw [if_neg c0]
    -- the first line
    refine eX12_table_65 hρ hF80 ?_
    rw [if_neg (by decide), c2.2.1.2.2.2.2.1, if_pos (show nI 0 = (0 : Int32) from rfl)]
    refine sM_readsTable hρ hFa c2 (fun e S3 q b3 => aftB e S3 (by rw [eP, bd_l q]) b3) (fun s R C p5 S3 q _ hR hC c3 => ?_)
    refine aft p5 R C 0 h0 0 t0 S3 c3 (by omega) (by omega) (fun z => ?_) (fun z S4 x c4 hx => ?_)
    · rw [pS0 p5 z] at q
      rw [eP, bd_l q]
    rw [pS1 p5 z] at q
    have q : pSizes B L 0 = .inr (R, C, tT B L p5) := q
    have eP2 : parse B L = bd (pRows B L C R 0 t0 0 (tT B L p5)) fun r => bd (pHoles B L R C r.1 17 h0 (1 + R) r.2.2) fun q => .inr ((R, C, q.2), q.1, r.1) := by
      rw [eP, bd_r q]
    have hx1 : x = 1 := by
      rcases hx with y | y
      · omega
      · exact y.1
    subst hx1
    -- holes
    have atC : ∀ n h ln p T t p' S5, ln + n ≤ 60 → 17 ≤ hN h + n → R < ln → tK B L p ≠ 0 → p ≤ L → (∀ a b, t a b ≤ 9) → HolI R C t h → CtM B L S0 p R C ln h T t S5 → pRows B L C R 0 t0 0 (tT B L p5) = .inr (t, T, p') → pHoles B L R C t n h ln p = pHoles B L R C t 17 h0 (1 + R) p' → AW g ρ (QI Q) (d + 7) mX12_table 65 [(0, .ref 80), (1, .int 1)] [] ρ S5 := by
      intro n
      induction n with
      | zero =>
        intro h ln p T t p' S5 h1 h2
        have := hN_le h
        omega
      | succ n ih =>
        intro h ln p T t p' S5 h1 h2 h3 h4 h5 h6 h7 hc e1 e2
        have e2 : (if tK B L p = 0 then .inr (h, ln) else bd (pHole B L R C t h p) fun r => pHoles B L R C t n r.1 (ln + 1) r.2) = pHoles B L R C t 17 h0 (1 + R) p' := e2
        rw [if_neg h4] at e2
        have eP3 : parse B L = bd (pHoles B L R C t 17 h0 (1 + R) p') fun q => .inr ((R, C, q.2), q.1, t) := by
          rw [eP2, bd_r e1]
        refine eX12_table_65 hρ hF80 ?_
        rw [if_neg (by decide), hc.2.1.2.2.2.2.1, hc.2.1.2.1, if_neg (fun z => by have := (nI_eq (a := ln) (b := 0) (by omega) (by omega)).mp z; omega), if_pos (nI_lt h3 (by omega))]
        refine sM_readsHole hρ hFa hR hC h6 hc (fun e S6 q b6 => ?_) (fun h' p4 S6 q c6 => ?_)
        · rw [bd_l q] at e2
          exact aftB e S6 (by rw [eP3, bd_l e2.symm]) b6
        refine aft p4 R C ln h' T t S6 c6 (by omega) (by omega) (fun z => ?_) (fun z S7 x c7 hx => ?_)
        · rw [pS0 p4 z] at q
          rw [bd_l q] at e2
          rw [eP3, bd_l e2.symm]
        · rw [pS1 p4 z] at q
          have q : pHole B L R C t h p = .inr (h', tT B L p4) := q
          have hq := pHole_ok hR hC h5 h7 q
          rw [bd_r q] at e2
          rcases hx with ⟨rfl, x2, x3⟩ | ⟨rfl, x2⟩
          · refine okEnd _ R C (ln + 1) h' T t S7 c7 ?_
            have e3 : pHoles B L R C t n h' (ln + 1) (tT B L p4) = .inr (h', ln + 1) := by
              cases n with
              | zero => rfl
              | succ n => show (if tK B L (tT B L p4) = 0 then _ else _) = _; rw [if_pos x2]
            rw [eP3, ← e2]
            show bd (pHoles B L R C t n h' (ln + 1) (tT B L p4)) _ = _
            rw [bd_r e3]
          · exact ih h' (ln + 1) (tT B L p4) T t p' S7 (by omega) (by have h9 : hN h' = hN h + 1 := hq.2.2; omega) (by omega) (fun z => x2 ⟨z, by omega⟩) hq.1 h6 hq.2.1 c7 e1 e2
    -- rows
    have atB : ∀ n y t T p S5, y + (n + 1) = R → RowsI C y t T → CtM B L S0 p R C (1 + y) h0 T t S5 → pRows B L C (n + 1) y t T p = pRows B L C R 0 t0 0 (tT B L p5) → AW g ρ (QI Q) (d + 7) mX12_table 65 [(0, .ref 80), (1, .int 1)] [] ρ S5 := by
      intro n
      induction n with
      | zero =>
        intro y t T p S5 hy hI hc he
        have he : (bd (pRow B L C y t T p) fun r => .inr (r.1, r.2.1, r.2.2)) = pRows B L C R 0 t0 0 (tT B L p5) := he
        have hcl := hI.cells (by omega) (show y < 4 by omega)
        refine eX12_table_65 hρ hF80 ?_
        have es : nI (1 + y) - 1 = nI y := by
          rw [show (1 : Int32) = nI 1 from rfl, pk_sub (by omega)]; congr 1; omega
        rw [if_neg (by decide), hc.2.1.2.2.2.2.1, hc.2.1.2.1, if_neg (fun z => by have := (nI_eq (a := 1 + y) (b := 0) (by omega) (by omega)).mp z; omega), if_neg (nI_nlt (by omega) (by omega)), es]
        refine sM_readsRow hρ hFb hcl hc (fun e S6 q b6 => ?_) (fun t' T' p' S6 q hI6 c6 => ?_)
        · rw [bd_l q] at he
          exact aftB e S6 (by rw [eP2, bd_l he.symm]) b6
        refine aft p' R C (1 + y) h0 T' t' S6 c6 (by omega) (by omega) (fun z => ?_) (fun z S7 x c7 hx => ?_)
        · rw [pS0 p' z] at q
          rw [bd_l q] at he
          rw [eP2, bd_l he.symm]
        · rw [pS1 p' z] at q
          have q : pRow B L C y t T p = .inr (t', T', tT B L p') := q
          rw [bd_r q] at he
          have he : .inr (t', T', tT B L p') = pRows B L C R 0 t0 0 (tT B L p5) := he
          have e1R : 1 + y + 1 = 1 + R := by omega
          rw [e1R] at c7 hx
          rcases hx with ⟨rfl, x2, x3⟩ | ⟨rfl, x2⟩
          · refine okEnd _ R C (1 + R) h0 T' t' S7 c7 ?_
            have e3 : pHoles B L R C t' 17 h0 (1 + R) (tT B L p') = .inr (h0, 1 + R) := by
              show (if tK B L (tT B L p') = 0 then _ else _) = _; rw [if_pos x2]
            rw [eP2, bd_r he.symm]
            show bd (pHoles B L R C t' 17 h0 (1 + R) (tT B L p')) _ = _
            rw [bd_r e3]
          · refine atC 17 h0 (1 + R) (tT B L p') T' t' (tT B L p') S7 (by omega) (by omega) (by omega) (fun z => x2 ⟨z, by omega⟩) c7.2.2.2 hI6.2.2.1 (fun a b q => absurd (show false = true from q) (by decide)) c7 he.symm rfl
      | succ n ih =>
        intro y t T p S5 hy hI hc he
        have he : (bd (pRow B L C y t T p) fun r => pRows B L C (n + 1) (y + 1) r.1 r.2.1 r.2.2) = pRows B L C R 0 t0 0 (tT B L p5) := he
        have hcl := hI.cells (by omega) (show y < 4 by omega)
        refine eX12_table_65 hρ hF80 ?_
        have es : nI (1 + y) - 1 = nI y := by
          rw [show (1 : Int32) = nI 1 from rfl, pk_sub (by omega)]; congr 1; omega
        rw [if_neg (by decide), hc.2.1.2.2.2.2.1, hc.2.1.2.1, if_neg (fun z => by have := (nI_eq (a := 1 + y) (b := 0) (by omega) (by omega)).mp z; omega), if_neg (nI_nlt (by omega) (by omega)), es]
        refine sM_readsRow hρ hFb hcl hc (fun e S6 q b6 => ?_) (fun t' T' p' S6 q hI6 c6 => ?_)
        · rw [bd_l q] at he
          exact aftB e S6 (by rw [eP2, bd_l he.symm]) b6
        refine aft p' R C (1 + y) h0 T' t' S6 c6 (by omega) (by omega) (fun z => ?_) (fun z S7 x c7 hx => ?_)
        · rw [pS0 p' z] at q
          rw [bd_l q] at he
          rw [eP2, bd_l he.symm]
        · rw [pS1 p' z] at q
          have q : pRow B L C y t T p = .inr (t', T', tT B L p') := q
          rw [bd_r q] at he
          have hx1 : x = 1 := by
            rcases hx with y | y
            · omega
            · exact y.1
          subst hx1
          rw [show 1 + y + 1 = 1 + (y + 1) by omega] at c7
          exact ih (y + 1) t' T' (tT B L p') S7 (by omega) hI6.rows c7 he
    exact atB (R - 1) 0 t0 0 (tT B L p5) S4 (by omega) ⟨by decide, by decide, fun a b => by show 0 ≤ 9; omega, fun a b q => rfl⟩ c4 (by rw [show R - 1 + 1 = R by omega])
  -- mem is kept and cleared
  have key : ∀ n j S1, j + n = 21 → (∀ i, i < j → S1.1 82 i = S.1 81 i ∧ S1.1 81 i = 0) → (∀ i, j ≤ i → S1.1 81 i = S.1 81 i) → Fr (fun k => k = 81 ∨ k = 82) S S1 → AW g ρ (QI Q) (d + 7) mX12_table 2 [(0, .ref 80), (1, .int (nI j))] [] ρ S1 := by
    intro n
    induction n with
    | zero =>
      intro j S1 hj h1 h2 h3
      have hj : j = 21 := hj
      subst hj
      exact rest S1 (fun i hi => (h1 i hi).1) (fun i hi => (h1 i hi).2) h3
    | succ n ih =>
      intro j S1 hj h1 h2 h3
      refine eX12_table_2 hρ hF ?_
      rw [if_neg (show ¬ (21 : Int32) ≤ nI j from nI_ge (b := 21) (by omega) (by omega)), nI_clamp (by omega), nI_1, h2 j (Nat.le_refl _)]
      refine ⟨vp_in_nI (by omega) (by omega), vp_in_nI (by omega) (by omega), vp_in_nI (by omega) (by omega), ih (j + 1) _ (by omega) (fun i hi => ⟨?_, ?_⟩) (fun i hi => ?_) ((h3.tr (Fr.setI _ _ _ (Or.inr rfl))).tr (Fr.setI _ _ _ (Or.inl rfl)))⟩
      · rw [setI_ne _ _ _ (by decide), setI_at]
        by_cases c : i = j
        · rw [if_pos ⟨rfl, c⟩, c]
        · rw [if_neg (fun z => c z.2)]; exact (h1 i (by omega)).1
      · rw [setI_at]
        by_cases c : i = j
        · rw [if_pos ⟨rfl, c⟩]
        · rw [if_neg (fun z => c z.2), setI_ne _ _ _ (by decide)]; exact (h1 i (by omega)).2
      · rw [setI_at, if_neg (fun z => by omega), setI_ne _ _ _ (by decide)]; exact h2 i (by omega)
  exact key 21 0 S (by omega) (fun i hi => by omega) (fun i _ => rfl) (Fr.rf S)
end M5
