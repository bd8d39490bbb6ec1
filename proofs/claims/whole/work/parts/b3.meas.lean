-- HOW FAR, by the class
theorem IN.of {a : AS} {ρ : Rs} {S S' : St} (h : IN a ρ S) (hN : NR ρ) (e : ∀ k, (k = 72 ∨ k = 74 ∨ k = 75 ∨ knO k) → S'.1 k = S.1 k) (e71 : S'.2 71 = S.2 71) (e3 : S'.1 70 3 = S.1 70 3) (e10 : S'.1 70 10 = S.1 70 10) (h11 : S'.1 70 11 = -1 ∨ S'.1 70 11 = nI (cntC (adjT a) (KK a).length)) (h13 : S'.1 70 13 = -1 ∨ ∃ s, s < (KK a).length ∧ S'.1 70 13 = nI s ∧ DM (adjS a) (KK a).length s (S'.1 76)) : IN a ρ S' := by
  obtain ⟨⟨kn, k1, c1, c2, c3⟩, h2, h3, h4, h5, h6, h7⟩ := h
  obtain ⟨kn', k1', k2, -, -⟩ := hN.2.1
  rw [k1] at k1'
  rw [← Option.some.inj k1'] at k2
  refine ⟨⟨kn, k1, c1.of e3 e71, fun i hi => ?_, fun i hi t ht => ?_⟩, h2, by rw [e10]; exact h3, fun v hv => ?_, fun j hj hd => ?_, h11, h13⟩
  · rw [e 72 (by omega)]; exact c2 i hi
  · rw [e kn (Or.inr (Or.inr (Or.inr k2)))]; exact c3 i hi t ht
  · rw [e 74 (by omega)]; exact h4 v hv
  · rw [e 75 (by omega)]; exact h5 j hj hd
theorem DM.zero {adj : Nat → Nat → Prop} {n s : Nat} {F : Nat → Int32} (h : DM adj n s F) (hn : n ≤ 1000) {v : Nat} (hv : v < n) (e : F v = 0) : v = s := by
  rcases h v hv with ⟨m, h1, h2, h3⟩ | ⟨h1, h2⟩
  · rw [h3] at e
    have e : nI m = nI 0 := e
    have e0 : m = 0 := (nI_eq (by omega) (by omega)).mp e
    rw [e0] at h2
    have : s = v := h2.1
    exact this.symm
  · rw [h2] at e; exact absurd e (by decide)
theorem mxI_ge0 (F : Nat → Int32) : ∀ n, 0 ≤ mxI F n
  | 0 => Int32.le_refl _
  | n + 1 => by
    have := mxI_ge0 F n
    show 0 ≤ if mxI F n < F n then F n else mxI F n
    split
    · exact Int32.le_trans this (Int32.le_of_lt (by assumption))
    · exact this
section CF
variable {g : GX} {d : Nat} {ρ : Rs} {S : St} {a : AS}
theorem sC_measure {Q : St → Prop} (hA : ∀ k, 16 ≤ k → gF g k) (hN : NR ρ) (hW : WF a) (hR : nR a ≠ 0) (hn : (KK a).length ≤ 1000) (hI : IN a ρ S) {s : Nat} (hs : s < (KK a).length) (h : ∀ S', IN a ρ S' → DM (adjS a) (KK a).length s (S'.1 76) → S'.1 70 2 = S.1 70 2 → Fr FNt S S' → Q S') : CALLv g (d + 5) mX6_measureFrom [.ref 70, .int (nI s)] ρ ρ S Q := by
  refine eX6_measureFrom hN.1 (fun k hk => hA k (by simp at hk; omega)) ?_
  by_cases c : S.1 70 13 = nI s
  · rw [if_pos c]
    refine h S hI ?_ rfl (Fr.rf S)
    rcases hI.2.2.2.2.2.2 with z | ⟨s', z1, z2, z3⟩
    · rw [z] at c; exact absurd c.symm (nI_ne1 (by omega))
    · have e : s' = s := (nI_eq (by omega) (by omega)).mp (z2.symm.trans c)
      rw [← e]; exact z3
  rw [if_neg c]
  obtain ⟨kn, k1, k2, k3, k4⟩ := hN.2.1
  have hnl := hN.2.2.2.1
  obtain ⟨kn', k1', c1⟩ := hI.1
  rw [k1] at k1'
  rw [← Option.some.inj k1'] at c1
  have ko : kn ≠ 70 ∧ kn ≠ 74 ∧ kn ≠ 76 ∧ kn ≠ 77 ∧ kn ≠ 75 := by unfold knO at k2; omega
  refine sJ_fill (k := 76) (n := 1000) hN.1 (by decide) (by decide) rfl (by decide) (hA 76 (by decide)) (fun S1 f1 r1 v1 => ?_)
  have c2 : CN a kn S1 := ⟨c1.1.of (by rw [(r1 70 (by decide)).1]) (by rw [v1]), fun i hi => by rw [(r1 72 (by decide)).1]; exact c1.2.1 i hi, fun i hi t ht => by rw [(r1 kn ko.2.2.1).1]; exact c1.2.2 i hi t ht⟩
  refine sC_spread (Q0 := []) (b := 0) (w := 1) (nn := nlen ρ) hN.1 hA (Or.inr rfl) k1 k3 k4 k2 hI.2.1 (by omega) hW hR hn c2 hs (by simp) List.nodup_nil (fun v hv => absurd hv (by simp)) (fun v hv => ⟨fun z => absurd z (by simp), fun _ => f1 v (by omega)⟩) (by omega) (fun S2 f q p2 pb sb _ => ?_)
  obtain ⟨dm, -⟩ := pb.dm (F := S2.1 76) (fun v hv => ⟨fun z => by have := (sb.2.2 v hv).1 z; rw [Nat.zero_add, Nat.one_mul] at this; exact this, fun z => (sb.2.2 v hv).2.2 (by simp) z⟩)
  have fr2 : Fr FNt S S2 := (r1.mono (fun k hk => by unfold FNt; omega)).tr (fun k hk => by unfold FNt at hk; exact ⟨p2.1 k (by omega) (by omega) (by omega), by rw [p2.2.2]⟩)
  have e70 : ∀ j, j ≠ 13 → j ≠ 15 → (setI S2 70 13 (nI s)).1 70 j = S.1 70 j := fun j h1 h2 => by rw [setI_at, if_neg (fun z => h1 z.2), p2.2.1 j h2, (r1 70 (by decide)).1]
  refine h _ (hI.of hN (fun k hk => ?_) ?_ (e70 3 (by decide) (by decide)) (e70 10 (by decide) (by decide)) (by rw [e70 11 (by decide) (by decide)]; exact hI.2.2.2.2.2.1) (Or.inr ⟨s, hs, by rw [setI_at, if_pos ⟨rfl, rfl⟩], ?_⟩)) ?_ (e70 2 (by decide) (by decide)) (fr2.tr (Fr.setI (F := FNt) (k := 70) _ _ _ (Or.inl ⟨by decide, by decide⟩)))
  · have hk2 : k ≠ 70 ∧ k ≠ 76 ∧ k ≠ 77 := by unfold knO at hk; omega
    rw [setI_ne _ _ _ hk2.1, p2.1 k hk2.2.1 hk2.2.2 hk2.1, (r1 k hk2.2.1).1]
  · show S2.2 71 = _
    rw [p2.2.2, v1]
  · rw [setI_ne _ _ _ (by decide)]; exact dm
  · rw [setI_ne _ _ _ (by decide)]; exact dm
theorem sC_distance {Q : Int32 → St → Prop} (hA : ∀ k, 16 ≤ k → gF g k) (hN : NR ρ) (hW : WF a) (hR : nR a ≠ 0) (hn : (KK a).length ≤ 1000) (hI : IN a ρ S) {i j : Nat} (hi : i < (KK a).length) (hj : j < (KK a).length) (h : ∀ v S', ((∃ m, m < (KK a).length ∧ dst (adjS a) i j m ∧ v = nI m) ∨ (¬ rch (adjS a) i j ∧ v = -1)) → IN a ρ S' → S'.1 70 2 = S.1 70 2 → Fr FNt S S' → Q v S') : CALLi g (d + 6) mX6_distance [.ref 70, .int (nI i), .int (nI j)] ρ ρ S Q := by
  obtain ⟨kn, k1, c1⟩ := id hI.1
  refine eX6_distance hN.1 ?_
  by_cases c : S.1 70 13 = nI j
  · rw [if_pos c, nI_clamp (by omega)]
    refine ⟨vp_in_nI (by omega) (by omega), h _ S ?_ hI rfl (Fr.rf S)⟩
    rcases hI.2.2.2.2.2.2 with z | ⟨s', z1, z2, z3⟩
    · rw [z] at c; exact absurd c.symm (nI_ne1 (by omega))
    · have e : s' = j := (nI_eq (by omega) (by omega)).mp (z2.symm.trans c)
      rw [e] at z3
      rcases z3 i hi with ⟨m, m1, m2, m3⟩ | ⟨m1, m2⟩
      · exact Or.inl ⟨m, m1, dst_sy (adjS_sy hW hR) m2, m3⟩
      · exact Or.inr ⟨fun z => m1 (rch_sy hW hR z), m2⟩
  · rw [if_neg c]
    refine sC_measure hA hN hW hR hn hI hi (fun S1 i1 dm e2 fr => ?_)
    rw [nI_clamp (by omega)]
    exact ⟨vp_in_nI (by omega) (by omega), h _ S1 (dm j hj) i1 e2 fr⟩
theorem sC_first {Q : Int32 → St → Prop} (hA : ∀ k, 16 ≤ k → gF g k) (hN : NR ρ) (hW : WF a) (hR : nR a ≠ 0) (hn : (KK a).length ≤ 1000) (hI : IN a ρ S) {s : Nat} (hs : s < (KK a).length) (h : ∀ k S', k < (KK a).length → DM (adjS a) (KK a).length s (S'.1 76) → S'.1 76 k = mxI (S'.1 76) (KK a).length → (∀ j, j < k → S'.1 76 j ≠ mxI (S'.1 76) (KK a).length) → IN a ρ S' → S'.1 70 2 = S.1 70 2 → Fr FNt S S' → Q (nI k) S') : CALLi g (d + 6) mX6_firstAtGreatest [.ref 70, .int (nI s)] ρ ρ S Q := by
  obtain ⟨kn, k1, c1⟩ := id hI.1
  refine eX6_firstAtGreatest hN.1 ?_
  refine sC_measure hA hN hW hR hn hI hs (fun S1 i1 dm e2 fr => ?_)
  obtain ⟨kn', k1', c1'⟩ := id i1.1
  have key : ∀ n i b, n + i = (KK a).length → b < (KK a).length → S1.1 76 b = mxI (S1.1 76) i → ((mxI (S1.1 76) i = 0 ∧ b = s) ∨ (b < i ∧ ∀ j, j < b → S1.1 76 j < S1.1 76 b)) → AW g ρ (QI Q) (d + 4 + 2) mX6_firstAtGreatest 9 [(0, .ref 70), (2, .int (nI b)), (3, .int (nI i))] [] ρ S1 := by
    intro n
    induction n with
    | zero =>
      intro i b hni hb e1 e3
      have ei : i = (KK a).length := by omega
      refine eX6_firstAtGreatest_9 hN.1 ?_
      rw [c1'.1.1, if_pos (nI_le (by omega) (by omega))]
      rw [ei] at e1 e3
      refine h b S1 hb dm e1 (fun j hj z => ?_) i1 e2 fr
      rcases e3 with ⟨q1, q2⟩ | ⟨q1, q2⟩
      · have := dm.zero hn (show j < (KK a).length by omega) (z.trans q1)
        omega
      · have := q2 j hj
        rw [z, ← e1] at this
        exact Int32.lt_irrefl this
    | succ n ih =>
      intro i b hni hb e1 e3
      refine eX6_firstAtGreatest_9 hN.1 ?_
      rw [c1'.1.1, if_neg (nI_ge (by omega) (by omega)), nI_clamp (show i < 2 ^ 31 by omega), nI_clamp (show b < 2 ^ 31 by omega), nI_1]
      refine ⟨vp_in_nI (by omega) (by omega), vp_in_nI (by omega) (by omega), ?_⟩
      have es : mxI (S1.1 76) (i + 1) = if mxI (S1.1 76) i < S1.1 76 i then S1.1 76 i else mxI (S1.1 76) i := rfl
      by_cases c : S1.1 76 i ≤ S1.1 76 b
      · rw [if_pos c]
        have c' : ¬ mxI (S1.1 76) i < S1.1 76 i := by rw [← e1]; exact Int32.not_lt.mpr c
        rw [if_neg c'] at es
        refine ih (i + 1) b (by omega) hb (by rw [es]; exact e1) ?_
        rcases e3 with ⟨q1, q2⟩ | ⟨q1, q2⟩
        · exact Or.inl ⟨by rw [es]; exact q1, q2⟩
        · exact Or.inr ⟨by omega, q2⟩
      · rw [if_neg c]
        have c' : mxI (S1.1 76) i < S1.1 76 i := by rw [← e1]; exact Int32.not_le.mp c
        rw [if_pos c'] at es
        refine ih (i + 1) i (by omega) (by omega) es.symm (Or.inr ⟨by omega, fun j hj => ?_⟩)
        exact Int32.lt_of_le_of_lt (mxI_ge (S1.1 76) i j hj) c'
  exact key (KK a).length 0 s (by omega) hs (dm.self hs) (Or.inl ⟨rfl, rfl⟩)
theorem sC_greatest {Q : Int32 → St → Prop} (hA : ∀ k, 16 ≤ k → gF g k) (hN : NR ρ) (hW : WF a) (hR : nR a ≠ 0) (hn : (KK a).length ≤ 1000) (hI : IN a ρ S) {s : Nat} (hs : s < (KK a).length) (h : ∀ S', DM (adjS a) (KK a).length s (S'.1 76) → IN a ρ S' → S'.1 70 2 = S.1 70 2 → Fr FNt S S' → Q (mxI (S'.1 76) (KK a).length) S') : CALLi g (d + 7) mX6_greatestDistance [.ref 70, .int (nI s)] ρ ρ S Q := by
  refine eX6_greatestDistance hN.1 (sC_first hA hN hW hR hn hI hs (fun k S1 hk dm e1 _ i1 e2 fr => ?_))
  obtain ⟨kn', k1', c1'⟩ := id i1.1
  rw [nI_clamp (by omega), e1]
  exact ⟨vp_in_nI (by omega) (by omega), h S1 dm i1 e2 fr⟩
theorem sC_reached {Q : Int32 → St → Prop} (hA : ∀ k, 16 ≤ k → gF g k) (hN : NR ρ) (hW : WF a) (hR : nR a ≠ 0) (hn : (KK a).length ≤ 1000) (hI : IN a ρ S) {s : Nat} (hs : s < (KK a).length) {x : Int32} (h : ∀ S', DM (adjS a) (KK a).length s (S'.1 76) → IN a ρ S' → S'.1 70 2 = S.1 70 2 → Fr FNt S S' → Q (nI (wcn (S'.1 76) x (KK a).length)) S') : CALLi g (d + 6) mX6_reached [.ref 70, .int (nI s), .int x] ρ ρ S Q := by
  obtain ⟨kn, k1, c1⟩ := id hI.1
  refine eX6_reached hN.1 ?_
  refine sC_measure hA hN hW hR hn hI hs (fun S1 i1 dm e2 fr => ?_)
  obtain ⟨kn', k1', c1'⟩ := id i1.1
  have key : ∀ n i, n + i = (KK a).length → AW g ρ (QI Q) (d + 4 + 2) mX6_reached 10 [(0, .ref 70), (2, .int x), (3, .int (nI (wcn (S1.1 76) x i))), (4, .int (nI i))] [] ρ S1 := by
    intro n
    induction n with
    | zero =>
      intro i hni
      refine eX6_reached_10 hN.1 ?_
      rw [c1'.1.1, if_pos (nI_le (by omega) (by omega)), show i = (KK a).length by omega]
      exact h S1 dm i1 e2 fr
    | succ n ih =>
      intro i hni
      have hi : i < (KK a).length := by omega
      refine eX6_reached_10 hN.1 ?_
      rw [c1'.1.1, if_neg (nI_ge (by omega) (by omega)), nI_clamp (show i < 2 ^ 31 by omega), nI_1]
      refine ⟨vp_in_nI (by omega) (by omega), ?_⟩
      have hi2 := ih (i + 1) (by omega)
      have es : wcn (S1.1 76) x (i + 1) = wcn (S1.1 76) x i + if 0 ≤ S1.1 76 i ∧ S1.1 76 i ≤ x then 1 else 0 := rfl
      rw [es] at hi2
      have hge := dm.ge hn hi
      by_cases c0 : S1.1 76 i = -1
      · rw [if_pos c0]
        rw [if_neg (fun z => by rw [c0] at z; exact absurd z.1 (by decide))] at hi2
        exact hi2
      · rw [if_neg c0]
        have hp : 0 ≤ S1.1 76 i := by
          rcases dm i hi with ⟨m, m1, m2, m3⟩ | ⟨m1, m2⟩
          · rw [m3]; exact nI_le (a := 0) (by omega) (by omega)
          · exact absurd m2 c0
        refine ⟨vp_in_nI (by omega) (by omega), ?_⟩
        by_cases c : x < S1.1 76 i
        · rw [if_pos c]
          rw [if_neg (fun z => absurd c (Int32.not_lt.mpr z.2))] at hi2
          exact hi2
        · rw [if_neg c, nI_1]
          rw [if_pos ⟨hp, Int32.not_lt.mp c⟩] at hi2
          exact hi2
  exact key (KK a).length 0 (by omega)
theorem sC_headOf {Q : Int32 → St → Prop} (hN : NR ρ) (hn : (KK a).length ≤ 1000) (hI : IN a ρ S) {i : Nat} (hi : i < (KK a).length) (h : ∀ j, j < (KK a).length → hdA a i j → S.1 74 i = nI j → Q (nI j) S) : CALLi g (d + 3) mX6_headOf [.ref 70, .int (nI i)] ρ ρ S Q := by
  obtain ⟨kn, k1, c1⟩ := id hI.1
  refine eX6_headOf hN.1 ?_
  obtain ⟨j, j1, j2, j3⟩ := hI.2.2.2.1 i hi
  rw [nI_clamp (by omega), j2]
  exact ⟨vp_in_nI (by omega) (by omega), h j j1 j3 j2⟩
theorem sC_classSize {Q : Int32 → St → Prop} (hN : NR ρ) (hW : WF a) (hR : nR a ≠ 0) (hn : (KK a).length ≤ 1000) (hI : IN a ρ S) {i : Nat} (hi : i < (KK a).length) (h : ∀ q, RC (adjS a) i q → Q (nI q.length) S) : CALLi g (d + 4) mX6_classSize [.ref 70, .int (nI i)] ρ ρ S Q := by
  obtain ⟨kn, k1, c1⟩ := id hI.1
  refine eX6_classSize hN.1 (sC_headOf hN hn hI hi (fun j hj hd _ => ?_))
  rw [nI_clamp (by omega)]
  refine ⟨vp_in_nI (by omega) (by omega), ?_⟩
  have hh : hdN (adjS a) j := fun ⟨k, m, hk, hp⟩ => hd.2 k hk (rch_tr ⟨m, hp⟩ hd.1)
  obtain ⟨q, q1, q2⟩ := hI.2.2.2.2.1 j hj hh
  rw [q2]
  refine h q ⟨q1.1, fun v => ?_⟩
  rw [q1.2 v]
  exact ⟨fun z => rch_tr (rch_sy hW hR hd.1) z, fun z => rch_tr hd.1 z⟩
end CF
