-- FILLED ARRAYS, THE WHOLE TEXT, THE SHEET
theorem wide {n : Nat} (h : n < 2 ^ 31) : (nI n).toInt64 = lN n := by
  rw [← Int64.toInt_inj, Int32.toInt_toInt64, nI_toInt h, pf_lI (by omega)]
theorem rsum_upd {t : Nat → Nat → Nat} {y x v : Nat} (hx : x < 4) (h : t y x = 0) (a : Nat) : rsum (udt t y x v) a = rsum t a + if a = y then v else 0 := by
  unfold rsum s4 udt
  by_cases c : a = y
  · subst c
    rcases (show x = 0 ∨ x = 1 ∨ x = 2 ∨ x = 3 by omega) with rfl | rfl | rfl | rfl <;> simp <;> omega
  · simp [c]
theorem csum_upd {t : Nat → Nat → Nat} {y x v : Nat} (hy : y < 4) (h : t y x = 0) (b : Nat) : csum (udt t y x v) b = csum t b + if b = x then v else 0 := by
  unfold csum s4 udt
  by_cases c : b = x
  · subst c
    rcases (show y = 0 ∨ y = 1 ∨ y = 2 ∨ y = 3 by omega) with rfl | rfl | rfl | rfl <;> simp <;> omega
  · simp [c]
/-- the first m cells -/
def tp (t : Nat → Nat → Nat) (m : Nat) : Nat → Nat → Nat := fun a b => if 4 * a + b < m ∧ b < 4 then t a b else 0
theorem tp_s (t : Nat → Nat → Nat) {y x : Nat} (hx : x < 4) : tp t (4 * y + x + 1) = udt (tp t (4 * y + x)) y x (t y x) := by
  funext a b
  unfold tp udt
  by_cases c : a = y ∧ b = x
  · rw [if_pos c, c.1, c.2, if_pos (by omega)]
  · rw [if_neg c]
    show _ = (if 4 * a + b < 4 * y + x ∧ b < 4 then t a b else 0)
    by_cases c2 : 4 * a + b < 4 * y + x ∧ b < 4
    · rw [if_pos c2, if_pos (by omega)]
    · rw [if_neg c2, if_neg (by omega)]
theorem tp_z (t : Nat → Nat → Nat) {y x : Nat} : tp t (4 * y + x) y x = 0 := by
  unfold tp
  rw [if_neg (by omega)]
theorem tp_16 (t : Nat → Nat → Nat) {a b : Nat} (ha : a < 4) (hb : b < 4) : tp t 16 a b = t a b := by
  unfold tp
  rw [if_pos (by omega)]
theorem tp_rs (t : Nat → Nat → Nat) {a : Nat} (ha : a < 4) : rsum (tp t 16) a = rsum t a := by
  unfold rsum s4
  rw [tp_16 t ha (by omega), tp_16 t ha (by omega), tp_16 t ha (by omega), tp_16 t ha (by omega)]
theorem tp_cs (t : Nat → Nat → Nat) {b : Nat} (hb : b < 4) : csum (tp t 16) b = csum t b := by
  unfold csum s4
  dsimp only
  rw [tp_16 t (by omega) hb, tp_16 t (by omega) hb, tp_16 t (by omega) hb, tp_16 t (by omega) hb]
theorem tp_ts (t : Nat → Nat → Nat) : tsum (tp t 16) = tsum t := by
  unfold tsum s4
  rw [tp_rs t (by omega), tp_rs t (by omega), tp_rs t (by omega), tp_rs t (by omega)]
section T1
variable {g : GX} {d : Nat} {ρ : Rs} {S : St}
theorem sJ_fill {k n : Nat} {x : Int32} {Q : St → Prop} (hρ : Ok ρ) (h16 : 16 ≤ k) (hk : k < N0) (hs : sh0 k = .inr (0, n)) (hn : n < 2 ^ 31) (hF : gF g k) (h : ∀ S', (∀ j, j < n → S'.1 k j = x) → Fr (fun a => a = k) S S' → S'.2 = S.2 → Q S') : CALLv g d mJ7_fill_53178 [.ref k, .int x] ρ ρ S Q := by
  have hsh : shp ρ k = .inr (0, n) := by unfold shp; rw [if_pos hk]; exact hs
  refine eJ7_fill_53178 hρ h16 (okn hρ hk) hsh ?_
  have key : ∀ m i S1, i + m = n → (∀ j, j < i → S1.1 k j = x) → Fr (fun a => a = k) S S1 → S1.2 = S.2 → AW g ρ (QV Q) d mJ7_fill_53178 5 [(0, .ref k), (1, .int x), (2, .int (nI i)), (3, .int (nI n))] [] ρ S1 := by
    intro m
    induction m with
    | zero =>
      intro i S1 hi h1 h2 h3
      refine eJ7_fill_53178_5 hρ h16 (okn hρ hk) hsh hF ?_
      rw [if_pos (nI_le (by omega) (by omega))]
      exact h S1 (fun j hj => h1 j (by omega)) h2 h3
    | succ m ih =>
      intro i S1 hi h1 h2 h3
      refine eJ7_fill_53178_5 hρ h16 (okn hρ hk) hsh hF ?_
      rw [if_neg (nI_ge (by omega) (by omega)), nI_clamp (by omega), nI_1]
      refine ⟨vp_in_nI (by omega) (by omega), ih (i + 1) _ (by omega) (fun j hj => ?_) (h2.tr (Fr.setI _ _ _ rfl)) h3⟩
      rw [setI_at]
      by_cases c : j = i
      · rw [if_pos ⟨rfl, c⟩]
      · rw [if_neg (fun z => c z.2)]; exact h1 j (by omega)
  exact key n 0 S (by omega) (fun j hj => by omega) (Fr.rf S) rfl
theorem sJ_fillL {k n : Nat} {x : Int64} {Q : St → Prop} (hρ : Ok ρ) (h16 : 16 ≤ k) (hk : k < N0) (hs : sh0 k = .inr (1, n)) (hn : n < 2 ^ 31) (hF : gF g k) (h : ∀ S', (∀ j, j < n → S'.2 k j = x) → Fr (fun a => a = k) S S' → S'.1 = S.1 → Q S') : CALLv g d mJ7_fill_d0a16 [.ref k, .long x] ρ ρ S Q := by
  have hsh : shp ρ k = .inr (1, n) := by unfold shp; rw [if_pos hk]; exact hs
  refine eJ7_fill_d0a16 hρ h16 (okn hρ hk) hsh ?_
  have key : ∀ m i S1, i + m = n → (∀ j, j < i → S1.2 k j = x) → Fr (fun a => a = k) S S1 → S1.1 = S.1 → AW g ρ (QV Q) d mJ7_fill_d0a16 6 [(0, .ref k), (1, .long x), (3, .int (nI i)), (4, .int (nI n))] [] ρ S1 := by
    intro m
    induction m with
    | zero =>
      intro i S1 hi h1 h2 h3
      refine eJ7_fill_d0a16_6 hρ h16 (okn hρ hk) hsh hF ?_
      rw [if_pos (nI_le (by omega) (by omega))]
      exact h S1 (fun j hj => h1 j (by omega)) h2 h3
    | succ m ih =>
      intro i S1 hi h1 h2 h3
      refine eJ7_fill_d0a16_6 hρ h16 (okn hρ hk) hsh hF ?_
      rw [if_neg (nI_ge (by omega) (by omega)), nI_clamp (by omega), nI_1]
      refine ⟨vp_in_nI (by omega) (by omega), ih (i + 1) _ (by omega) (fun j hj => ?_) (h2.tr (Fr.setL _ _ _ rfl)) h3⟩
      rw [setL_at]
      by_cases c : j = i
      · rw [if_pos ⟨rfl, c⟩]
      · rw [if_neg (fun z => c z.2)]; exact h1 j (by omega)
  exact key n 0 S (by omega) (fun j hj => by omega) (Fr.rf S) rfl
/-- the whole text -/
theorem sC_read {B : Nat → Nat} {L : Nat} {Q : Int32 → St → Prop} (hρ : Ok ρ) (hF : ∀ k ∈ ([19, 20] : List Nat), gF g k) (hB0 : Byt 17 1 18 B L S) (hE : ∀ e S', parse B L = .inl e → FlC e S S' → Q 0 S') (hO : ∀ r S', parse B L = .inr r → (∃ T, RdC r.1.1 r.1.2.1 r.1.2.2 r.2.1 T r.2.2 S') → Fr F20 S S' → Q 1 S') : CALLi g (d + 11) mX8_read [.ref 19, .ref 17] ρ ρ S Q := by
  have hF1 : ∀ k ∈ ([19] : List Nat), gF g k := fun k hk => hF k (by simp at hk; simp [hk])
  refine eX8_read hρ hF1 ?_
  refine sJ_fill hρ (by decide) (by decide) (n := 16) rfl (by decide) (hF 20 (by simp)) (fun S1 f1 f2 f3 => ?_)
  have hz : hB h0 = 0 := by decide
  have fr1 : Fr F20 S S1 := by
    refine Fr.tr ?_ (f2.mono (fun k hk => Or.inr hk))
    exact (((((((Fr.setI S _ _ (Or.inl rfl)).tr (Fr.setI _ _ _ (Or.inl rfl))).tr (Fr.setI _ _ _ (Or.inl rfl))).tr (Fr.setI _ _ _ (Or.inl rfl))).tr (Fr.setI _ _ _ (Or.inl rfl))).tr (Fr.setI _ _ _ (Or.inl rfl))).tr (Fr.setI _ _ _ (Or.inl rfl))).tr (Fr.setI _ _ _ (Or.inl rfl))
  have r1 : RdC 0 0 0 h0 0 t0 S1 := by
    unfold RdC
    rw [(f2 19 (by decide)).1, hz]
    refine ⟨?_, ?_, ?_, ?_, ?_, ?_, ?_, fun k hk => f1 k hk⟩ <;> simp [setI_at] <;> rfl
  have e10 : S1.1 19 10 = nI 0 := by
    rw [(f2 19 (by decide)).1]
    simp [setI_at]; rfl
  refine sC_advance hρ hF1 (hB0.f fr1) (Nat.zero_le _) e10 (fun S2 l2 j2 => ?_)
  have c2 : CtC B L S 0 0 0 0 h0 0 t0 S2 := by
    refine ⟨l2, ?_, fr1.tr (j2.1.mono (fun k hk => Or.inl hk)), Nat.zero_le _⟩
    obtain ⟨r0, r1, r2, r3, r4, r5, r7, r20⟩ := r1
    refine ⟨?_, ?_, ?_, ?_, ?_, ?_, ?_, ?_⟩
    · rw [j2.2.2 0 (by omega)]; exact r0
    · rw [j2.2.2 1 (by omega)]; exact r1
    · rw [j2.2.2 2 (by omega)]; exact r2
    · rw [j2.2.2 3 (by omega)]; exact r3
    · rw [j2.2.2 4 (by omega)]; exact r4
    · rw [j2.2.2 5 (by omega)]; exact r5
    · rw [j2.2.2 7 (by omega)]; exact r7
    · intro k hk
      rw [(j2.1 20 (by decide)).1]; exact r20 k hk
  have hk := kdA_le B L (tF B L 0)
  have hk : tK B L 0 ≤ 4 := hk
  have i0 : nI (tK B L 0) = 0 ↔ tK B L 0 = 0 := nI_eq (b := 0) (by omega) (by omega)
  rw [l2.1]
  by_cases c0 : tK B L 0 = 0
  · rw [if_pos (i0.mpr c0)]
    exact hO ((0, 0, 0), h0, t0) S2 (by unfold parse; rw [if_pos c0]) ⟨0, c2.2.1⟩ c2.2.2.1
  rw [if_neg (fun z => c0 (i0.mp z))]
  refine sC_readSizes hρ hF1 hB0 c2 (fun e S' q f => ?_) (fun s S3 q3 c3 => ?_)
  · rw [if_pos rfl]; exact hE e S' (by unfold parse; rw [if_neg c0, bd_l q]) f
  rw [if_neg (by decide)]
  have hs := pSizes_ok (Nat.zero_le _) q3
  -- holes
  have at101 : ∀ n i h ln p T r S4, i + n = 17 → RowsI s.2.1 s.1 r T → CtC B L S p s.1 s.2.1 ln h T r S4 → (∀ T', pRows B L s.2.1 s.1 0 t0 0 s.2.2 = .inr (r, T, T') → True) → (∃ p', pRows B L s.2.1 s.1 0 t0 0 s.2.2 = .inr (r, T, p') ∧ pHoles B L s.1 s.2.1 r n h ln p = pHoles B L s.1 s.2.1 r 17 h0 (1 + s.1) p') → AW g ρ (QI Q) (d + 11) mX8_read 101 [(0, .ref 19), (1, .ref 17), (2, .int (nI i))] [] ρ S4 := by
    intro n
    induction n with
    | zero =>
      intro i h ln p T r S4 hi hI hc _ he
      obtain ⟨p', e1, e2⟩ := he
      refine eX8_read_101 hρ ?_
      rw [if_pos (show (16 : Int32) < nI i from nI_lt (a := 16) (by omega) (by omega))]
      exact hO ((s.1, s.2.1, ln), h, r) S4 (by unfold parse; rw [if_neg c0, bd_r q3, bd_r e1, bd_r e2.symm]) ⟨T, hc.2.1⟩ hc.2.2.1
    | succ n ih =>
      intro i h ln p T r S4 hi hI hc _ he
      obtain ⟨p', e1, e2⟩ := he
      have e2 : (if tK B L p = 0 then .inr (h, ln) else bd (pHole B L s.1 s.2.1 r h p) fun q => pHoles B L s.1 s.2.1 r n q.1 (ln + 1) q.2) = pHoles B L s.1 s.2.1 r 17 h0 (1 + s.1) p' := e2
      refine eX8_read_101 hρ ?_
      have hk := kdA_le B L (tF B L p)
      have hk : tK B L p ≤ 4 := hk
      have i0 : nI (tK B L p) = 0 ↔ tK B L p = 0 := nI_eq (b := 0) (by omega) (by omega)
      rw [if_neg (show ¬ (16 : Int32) < nI i from nI_nlt (a := 16) (by omega) (by omega)), hc.1.1]
      by_cases c : tK B L p = 0
      · rw [if_pos (i0.mpr c)]
        rw [if_pos c] at e2
        exact hO ((s.1, s.2.1, ln), h, r) S4 (by unfold parse; rw [if_neg c0, bd_r q3, bd_r e1, bd_r e2.symm]) ⟨T, hc.2.1⟩ hc.2.2.1
      · rw [if_neg (fun z => c (i0.mp z))]
        rw [if_neg c] at e2
        refine sC_readHole hρ hF1 hB0 hs.2.1 hs.2.2 hI.2.2.1 hc (fun e S' q f => ?_) (fun q S5 q5 c5 => ?_)
        · rw [if_pos rfl]
          rw [bd_l q] at e2
          exact hE e S' (by unfold parse; rw [if_neg c0, bd_r q3, bd_r e1, bd_l e2.symm]) f
        · rw [if_neg (by decide), nI_1]
          rw [bd_r q5] at e2
          exact ih (i + 1) q.1 (ln + 1) q.2 T r S5 (by omega) hI c5 (fun _ _ => trivial) ⟨p', e1, e2⟩
  -- rows
  have at74 : ∀ n y t T p S4, y + n = s.1 → RowsI s.2.1 y t T → CtC B L S p s.1 s.2.1 (1 + y) h0 T t S4 → pRows B L s.2.1 n y t T p = pRows B L s.2.1 s.1 0 t0 0 s.2.2 → AW g ρ (QI Q) (d + 11) mX8_read 74 [(0, .ref 19), (1, .ref 17), (2, .int (nI y))] [] ρ S4 := by
    intro n
    induction n with
    | zero =>
      intro y t T p S4 hy hI hc he
      have he : .inr (t, T, p) = pRows B L s.2.1 s.1 0 t0 0 s.2.2 := he
      have hy : y = s.1 := hy
      subst hy
      refine eX8_read_74 hρ ?_
      rw [hc.2.1.2.2.1, if_pos (nI_le (by omega) (by omega))]
      exact at101 17 0 h0 (1 + s.1) p T t S4 (by omega) hI hc (fun _ _ => trivial) ⟨p, he.symm, rfl⟩
    | succ n ih =>
      intro y t T p S4 hy hI hc he
      have he : (bd (pRow B L s.2.1 y t T p) fun r => pRows B L s.2.1 n (y + 1) r.1 r.2.1 r.2.2) = pRows B L s.2.1 s.1 0 t0 0 s.2.2 := he
      have hcl := hI.cells (by omega) (show y < 4 by omega)
      refine eX8_read_74 hρ ?_
      rw [hc.2.1.2.2.1, if_neg (nI_ge (by omega) (by omega))]
      refine sC_readCounts hρ hF hB0 hcl hc (fun e S' q f => ?_) (fun r S5 q5 c5 => ?_)
      · rw [if_pos rfl]
        rw [bd_l q] at he
        exact hE e S' (by unfold parse; rw [if_neg c0, bd_r q3, bd_l he.symm]) f
      · rw [if_neg (by decide), nI_1]
        rw [bd_r q5] at he
        exact ih (y + 1) r.1 r.2.1 r.2.2 S5 (by omega) (pRow_ok hcl hc.2.2.2 q5).2.rows c5 he
  exact at74 s.1 0 t0 0 s.2.2 S3 (by omega) ⟨by decide, by decide, fun a b => by show 0 ≤ 9; omega, fun a b q => rfl⟩ c3 rfl
end T1
