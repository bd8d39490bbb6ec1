-- ROWS OF CHOICES, by the class
def swpR (ρ : Rs) : Rs := setR (setR ρ 70 16 (rR ρ 70 17)) 70 17 (rR ρ 70 16)
def swk : Nat → Rs → Rs
  | 0, ρ => ρ
  | k + 1, ρ => swk k (swpR ρ)
theorem swpR_o (ρ : Rs) {j : Nat} (h1 : j ≠ 16) (h2 : j ≠ 17) : rR (swpR ρ) 70 j = rR ρ 70 j := by
  show rR (setR (setR ρ 70 16 _) 70 17 _) 70 j = _
  rw [setR_at, if_neg (fun z => h2 z.2), setR_at, if_neg (fun z => h1 z.2)]
theorem swpR_shp (ρ : Rs) (k : Nat) : shp (swpR ρ) k = shp ρ k := rfl
theorem swpR_len (ρ : Rs) : nlen (swpR ρ) = nlen ρ := by
  unfold nlen
  rw [swpR_o ρ (by decide) (by decide)]
  rfl
theorem NR.swp {ρ : Rs} (h : NR ρ) : NR (swpR ρ) := by
  obtain ⟨h1, ⟨kn, k1, k2, k3, k4⟩, h3, h4, ka, kb, h5, h6, h7⟩ := h
  have hl := swpR_len ρ
  refine ⟨(h1.setR rf70.2.1).setR rf70.2.2, ⟨kn, by rw [swpR_o ρ (by decide) (by decide)]; exact k1, k2, k3, by rw [hl]; exact k4⟩, by rw [hl]; exact h3, by rw [hl]; exact h4, kb, ka, ?_, ?_, by omega⟩
  · show rR (setR (setR ρ 70 16 _) 70 17 _) 70 16 = _
    rw [setR_at, if_neg (by omega), setR_eq]; exact h6
  · show rR (setR (setR ρ 70 16 _) 70 17 _) 70 17 = _
    rw [setR_eq]; exact h5
theorem NR.swk : ∀ k {ρ : Rs}, NR ρ → NR (swk k ρ)
  | 0, _, h => h
  | k + 1, _, h => NR.swk k h.swp
theorem swk_rc : ∀ k ρ, rc (swk k ρ) = rc ρ ∧ ru (swk k ρ) = ru ρ
  | 0, _ => ⟨rfl, rfl⟩
  | k + 1, ρ => swk_rc k (swpR ρ)
theorem swk_len : ∀ k ρ, nlen (swk k ρ) = nlen ρ
  | 0, _ => rfl
  | k + 1, ρ => by
    show nlen (swk k (swpR ρ)) = _
    rw [swk_len k, swpR_len]
theorem swk_6 : ∀ k ρ, rR (swk k ρ) 70 6 = rR ρ 70 6
  | 0, _ => rfl
  | k + 1, ρ => by
    show rR (swk k (swpR ρ)) 70 6 = _
    rw [swk_6 k, swpR_o ρ (by decide) (by decide)]
theorem IN.swk {a : AS} {ρ : Rs} {S : St} (h : IN a ρ S) (k : Nat) : IN a (swk k ρ) S := by
  obtain ⟨⟨kn, k1, c1⟩, h2, h3⟩ := h
  exact ⟨⟨kn, by rw [swk_6]; exact k1, c1⟩, by rw [swk_len]; exact h2, h3⟩
theorem sh78 {ρ : Rs} {k : Nat} (hk : k = 78 ∨ k = 79) : shp ρ k = .inr (1, 1000) := by
  rcases hk with rfl | rfl
  · unfold shp
    rw [if_pos (by decide)]
    rfl
  · unfold shp
    rw [if_pos (by decide)]
    rfl
section CW
variable {g : GX} {d : Nat} {ρ : Rs} {S : St} {a : AS}
theorem sC_choiceRows {Q : Int64 → St → Prop} {ρ' : Rs} (hA : ∀ k, 16 ≤ k → gF g k) (hN : NR ρ) (hW : WF a) (hR : nR a ≠ 0) (hn : (KK a).length ≤ 1000) (hI : IN a ρ S) (hMv : MVd a S) {s n j : Nat} (hs : s < (KK a).length) (hj : j < (KK a).length) (hn4 : n ≤ 4) (hρ' : swk n ρ = ρ') (h : ∀ S', IN a ρ' S' → S'.1 70 2 = S.1 70 2 → Fr FNt S S' → Q (lN (Wv a s n j)) S') : CALLl g (d + 4) mX6_choiceRows [.ref 70, .int (nI s), .int (nI n), .int (nI j)] ρ ρ' S Q := by
  have hrc := swk_rc n ρ
  rw [hρ'] at hrc
  obtain ⟨kn, k1, k2, k3, k4⟩ := hN.2.1
  have hnl := hN.2.2.2.1
  obtain ⟨kn', k1', c1⟩ := id hI.1
  rw [k1] at k1'
  rw [← Option.some.inj k1'] at c1
  obtain ⟨ka0, kb0, a1, b1, ab⟩ := hN.2.2.2.2
  have hrn : 95 ≤ rn ρ := hN.1.1
  refine eX6_choiceRows hN.1 a1 (by omega) (by omega) (sh78 (by omega)) (by omega) (by omega) (hA _ (by omega)) ?_
  refine sJ_fillL (k := ka0) (n := 1000) hN.1 (by omega) (by unfold N0; omega) (by rcases ab with z | z <;> rw [z.1] <;> rfl) (by decide) (hA _ (by omega)) (fun S1 f1 r1 v1 => ?_)
  rw [nI_clamp (show s < 2 ^ 31 by omega)]
  refine ⟨vp_in_nI (by omega) (by omega), ?_⟩
  -- nothing but the two rows changes
  have key : ∀ m k ρc S2, m + k = n → NR ρc → swk m ρc = ρ' → rR ρc 70 6 = some kn → nlen ρc = nlen ρ → rn ρc = rn ρ → S2.1 = S.1 → (∀ i, i ≠ 78 → i ≠ 79 → S2.2 i = S.2 i) → (∀ ka, rR ρc 70 16 = some ka → ∀ i, i < (KK a).length → S2.2 ka i = lN (Wv a s k i)) → AW g ρ' (QJ Q) (d + 4) mX6_choiceRows 20 [(0, .ref 70), (2, .int (nI n)), (3, .int (nI j)), (4, .int (nI k))] [] ρc S2 := by
    intro m
    induction m with
    | zero =>
      intro k ρc S2 hk nr hp r6 rl rr e1 e2 ew
      obtain ⟨ka, kb, a1, b1, ab⟩ := nr.2.2.2.2
      have hp : ρc = ρ' := hp
      refine eX6_choiceRows_20 nr.1 a1 (by omega) (by omega) (sh78 (by omega)) (by rw [hp]; exact Nat.le_refl _) (by rw [hp]; exact Nat.le_refl _) ?_
      rw [if_pos (nI_le (by omega) (by omega)), nI_clamp (by omega), ew ka a1 j hj, show k = n by omega]
      refine ⟨vp_in_nI (by omega) (by omega), hp, h S2 ?_ (by rw [e1]) (fun i hi => ⟨by rw [e1], e2 i (by unfold FNt at hi; omega) (by unfold FNt at hi; omega)⟩)⟩
      have hI2 : IN a ρ' S := by rw [← hρ']; exact hI.swk n
      have nr' : NR ρ' := by rw [← hp]; exact nr
      refine hI2.of nr' (fun i _ => by rw [e1]) (e2 71 (by decide) (by decide)) (by rw [e1]) (by rw [e1]) (by rw [e1]; exact hI2.2.2.2.2.2.1) ?_
      rw [e1]
      exact hI2.2.2.2.2.2.2
    | succ m ih =>
      intro k ρc S2 hk nr hp r6 rl rr e1 e2 ew
      obtain ⟨ka, kb, a1, b1, ab⟩ := nr.2.2.2.2
      have hrc2 := swk_rc (m + 1) ρc
      rw [hp] at hrc2
      have hrn2 : 95 ≤ rn ρc := nr.1.1
      have k4' : shp ρc kn = .inr (0, nlen ρc) := by
        obtain ⟨kn2, q1, q2, q3, q4⟩ := nr.2.1
        rw [r6] at q1
        rw [Option.some.inj q1]
        exact q4
      have kn16 : 16 ≤ kn := by unfold knO at k2; omega
      refine eX6_choiceRows_20 nr.1 a1 (by omega) (by omega) (sh78 (by omega)) (by omega) (by omega) ?_
      rw [if_neg (nI_ge (by omega) (by omega))]
      -- one row after the other
      have rows : ∀ t i S3, t + i = (KK a).length → S3.1 = S.1 → (∀ l, l ≠ 78 → l ≠ 79 → S3.2 l = S.2 l) → (∀ l, l < (KK a).length → S3.2 ka l = lN (Wv a s k l)) → (∀ l, l < i → S3.2 kb l = lN (Wv a s (k + 1) l)) → AW g ρ' (QJ Q) (d + 4) mX6_choiceRows 29 [(0, .ref 70), (2, .int (nI n)), (3, .int (nI j)), (4, .int (nI k)), (5, .int (nI i))] [] ρc S3 := by
        intro t
        induction t with
        | zero =>
          intro i S3 hti e1 e2 ew ev
          refine eX6_choiceRows_29 nr.1 a1 (by omega) (by omega) (sh78 (by omega)) b1 (by omega) (by omega) (sh78 (by omega)) (by omega) (by omega) (fun k hk => hA k (by simp at hk; omega)) (hA _ (by omega)) ?_
          rw [e1, c1.1.1, if_pos (nI_le (by omega) (by omega)), nI_1]
          have es : setR (setR ρc 70 16 (some kb)) 70 17 (some ka) = swpR ρc := by
            unfold swpR
            rw [a1, b1]
          rw [es]
          refine ih (k + 1) (swpR ρc) S3 (by omega) nr.swp hp (by rw [swpR_o ρc (by decide) (by decide)]; exact r6) (by rw [swpR_len]; exact rl) rr e1 e2 (fun ka' ha' l hl => ?_)
          have : rR (swpR ρc) 70 16 = some kb := by
            show rR (setR (setR ρc 70 16 _) 70 17 _) 70 16 = _
            rw [setR_at, if_neg (by omega), setR_eq]; exact b1
          rw [this] at ha'
          rw [← Option.some.inj ha']
          exact ev l (by omega)
        | succ t iht =>
          intro i S3 hti e1 e2 ew ev
          have hi : i < (KK a).length := by omega
          have hm1 := FNo_mono a (show i + 1 ≤ (KK a).length by omega)
          have hfs := FNo_s a i
          have hnn := hI.2.1
          have hNB : (NB a i).length = ((SWs a).filter (mvC (unp ((KK a).getD i 0)))).length := by unfold NB; rw [List.length_map]
          have hOk := nOk_deg hW i
          rw [← hNB] at hOk
          have hno := (nNo hW i).2
          have hch : chN a ≤ 144 := by have hle := hW.le; exact chN_le (nR a) (by omega) (nC a) (by omega)
          refine eX6_choiceRows_29 nr.1 a1 (by omega) (by omega) (sh78 (by omega)) b1 (by omega) (by omega) (sh78 (by omega)) (by omega) (by omega) (fun k hk => hA k (by simp at hk; omega)) (hA _ (by omega)) ?_
          have e72 : ∀ l, l ≤ (KK a).length → S3.1 72 l = nI (FNo a l) := fun l hl => by rw [e1]; exact c1.2.1 l hl
          rw [e1, c1.1.1, if_neg (nI_ge (by omega) (by omega)), nI_1 i, nI_clamp (show i < 2 ^ 31 by omega)]
          have e26 : S3.1 26 2 = nI (chN a) := by rw [e1]; exact hMv.2.1
          have ebase : (S3.1 26 2 - 2 * (nI (FNo a (i + 1)) - nI (FNo a i))).toInt64 = lN (chN a - nOk a i) := by
            rw [e26, pk_sub (by omega), hfs, Nat.add_sub_cancel_left, show (2 : Int32) * nI (NB a i).length = nI (2 * (NB a i).length) from pk_mul 2 _, pk_sub (by omega), hOk]
            exact nI_l (by omega)
          have row1 : ∀ {Q2 : Int64 → St → Prop}, Q2 (lN (Wv a s (k + 1) i)) S3 → CALLl g (d + 3) mX6_choiceRowsTo [.ref 70, .int (nI i)] ρc ρc S3 Q2 := by
            intro Q2 hq2
            refine eX6_choiceRowsTo nr.1 r6 kn16 (by omega) k4' a1 (by omega) (by omega) (sh78 (by omega)) ?_
            rw [nI_1 i, nI_clamp (show i + 1 < 2 ^ 31 by omega), nI_clamp (show i < 2 ^ 31 by omega), e72 (i + 1) (by omega), e72 i (by omega), ew i hi, ebase, lN_mul]
            refine ⟨vp_in_nI (by omega) (by omega), nI_nlt (b := 0) (by omega) (by omega), nI_nlt (a := nlen ρc) (by omega) (by omega), vp_in_nI (by omega) (by omega), nI_nlt (b := 0) (by omega) (by omega), nI_nlt (a := nlen ρc) (by omega) (by omega), vp_in_nI (by omega) (by omega), ?_⟩
            have inn : ∀ B A, NB a i = A ++ B → AW g ρc (QJ Q2) (d + 2 + 1) mX6_choiceRowsTo 42 [(0, .ref 70), (3, .int (nI (FNo a (i + 1)))), (4, .long (lN (Wv a s k i * (chN a - nOk a i) + 2 * (A.map (Wv a s k)).sum))), (6, .int (nI (FNo a i + A.length)))] [] ρc S3 := by
              intro B
              induction B with
              | nil =>
                intro A hAB
                rw [List.append_nil] at hAB
                refine eX6_choiceRowsTo_42 nr.1 r6 kn16 (by omega) k4' a1 (by omega) (by omega) (sh78 (by omega)) ?_
                rw [if_pos (show nI (FNo a (i + 1)) ≤ nI (FNo a i + A.length) from nI_le (by rw [hfs, hAB]; omega) (by rw [← hAB]; omega))]
                have eW : Wv a s k i * (chN a - nOk a i) + 2 * (A.map (Wv a s k)).sum = Wv a s (k + 1) i := by
                  show _ = Wv a s k i * (chN a - nOk a i) + sg (fun j => Wv a s k j * nCh a i j) (KK a).length
                  rw [← Wv_near hW hR hi (Wv a s k), ← hAB]
                  congr 2
                  unfold NB Fs
                  rw [List.map_map]
                  rfl
                rw [eW]
                exact hq2
              | cons v B ihB =>
                intro A hAB
                have hAl : A.length < (NB a i).length := by rw [hAB, List.length_append, List.length_cons]; omega
                have egv : (NB a i).getD A.length 0 = v := by rw [hAB]; exact getD_mid
                have hv : v < (KK a).length := ((NB_adj hW hR hi).mp (by rw [hAB]; simp)).2.1
                refine eX6_choiceRowsTo_42 nr.1 r6 kn16 (by omega) k4' a1 (by omega) (by omega) (sh78 (by omega)) ?_
                have ekn : S3.1 kn (FNo a i + A.length) = nI v := by rw [e1, c1.2.2 i hi _ hAl, egv]
                rw [if_neg (show ¬ nI (FNo a (i + 1)) ≤ nI (FNo a i + A.length) from nI_ge (by omega) (by omega)), nI_clamp (show FNo a i + A.length < 2 ^ 31 by omega), ekn, if_neg (show ¬ nI v < (0 : Int32) from nI_nlt (b := 0) (by omega) (by omega)), if_neg (show ¬ (1000 : Int32) ≤ nI v from nI_ge (b := 1000) (by omega) (by omega)), nI_clamp (show v < 2 ^ 31 by omega), ew v hv, nI_1]
                refine ⟨vp_in_nI (by omega) (by omega), vp_in_nI (by omega) (by omega), ?_⟩
                have := ihB (A ++ [v]) (by rw [hAB, List.append_assoc]; rfl)
                rw [List.map_append, List.sum_append, len1, List.map_cons, List.map_nil, List.sum_cons, List.sum_nil, Nat.add_zero, Nat.mul_add, ← Nat.add_assoc] at this
                rw [show (2 : Int64) * lN (Wv a s k v) = lN (2 * Wv a s k v) from lN_mul 2 _, lN_add]
                exact this
            have := inn (NB a i) [] rfl
            rw [List.map_nil, List.sum_nil, Nat.mul_zero, Nat.add_zero, List.length_nil, Nat.add_zero] at this
            exact this
          refine row1 ⟨vp_in_nI (by omega) (by omega), ?_⟩
          refine iht (i + 1) _ (by omega) e1 (fun l h1 h2 => ?_) (fun l hl => ?_) (fun l hl => ?_)
          · rw [(Fr.setL (F := fun z => z = kb) S3 i (lN (Wv a s (k + 1) i)) rfl l (by omega)).2]
            exact e2 l h1 h2
          · rw [setL_at, if_neg (fun z => by omega)]
            exact ew l hl
          · rw [setL_at]
            by_cases c : l = i
            · rw [if_pos ⟨rfl, c⟩, c]
            · rw [if_neg (fun z => c z.2)]; exact ev l (by omega)
      exact rows (KK a).length 0 S2 (by omega) e1 e2 (ew ka a1) (fun l hl => absurd hl (by omega))
  refine key n 0 ρ _ (by omega) hN hρ' k1 rfl rfl v1 (fun i h1 h2 => ?_) (fun ka ha i hi => ?_)
  · rw [(Fr.setL (F := fun z => z = ka0) S1 s 1 rfl i (by omega)).2, (r1 i (by omega)).2]
  · rw [a1] at ha
    rw [← Option.some.inj ha, setL_at]
    have w0 : Wv a s 0 i = if i = s then 1 else 0 := rfl
    rw [w0]
    by_cases c : i = s
    · rw [if_pos ⟨rfl, c⟩, if_pos c]; rfl
    · rw [if_neg (fun z => c z.2), if_neg c, f1 i (by omega)]; rfl
end CW
