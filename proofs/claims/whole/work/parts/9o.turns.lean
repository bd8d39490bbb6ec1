section TN
variable {g : GX} {d : Nat} {ρ : Rs} {S : St} {a : AS}
theorem sC_addTurns {Q : St → Prop} (hρ : Ok ρ) (hF : ∀ k ∈ ([27, 28, 29, 30, 26] : List Nat), gF g k) (hW : WF a) (hI : IB a S) {L : List MVt} {r s t : Nat} (hr : r < nR a) (hs : s < nR a) (ht : t < nR a) (hL : L.length + (tnL2 a r s t).length ≤ 264) (hM : MVI L S) (h : ∀ S', MVI (L ++ tnL2 a r s t) S' → Fr FMv S S' → (∀ j, j ≠ 1 → S'.1 26 j = S.1 26 j) → Q S') : CALLv g (d + 6) mX5_addTurns [.ref 26, .ref 21, .int (nI r), .int (nI s), .int (nI t)] ρ ρ S Q := by
  have hle := hW.le
  have hIm : ∀ {S'}, Fr FMv S S' → IB a S' := fun f => hI.fr (fun k hk z => by unfold FMv at z; omega) f
  refine eX5_addTurns hρ ?_
  by_cases est : s = t
  · have e0 : tnL2 a r s t = [] := by unfold tnL2; rw [if_pos est]
    rw [e0, List.append_nil] at h
    refine eX5_addTurns_3 hρ ?_
    by_cases c : S.1 21 1 ≤ (0 : Int32)
    · rw [if_pos c]; exact h S hM (Fr.rf S) (fun _ _ => rfl)
    · rw [if_neg c, if_pos (by rw [est])]; exact h S hM (Fr.rf S) (fun _ _ => rfl)
  · have e2 : tnL2 a r s t = upF (fun c => upF (fun d => upF (tnL1 a r s t c d) (nC a) 0) (nC a) 0) (nC a) 0 := by unfold tnL2; rw [if_neg est]
    generalize hT : L ++ tnL2 a r s t = T at h
    have hTl : T.length ≤ 264 := by rw [← hT, List.length_append]; exact hL
    have cs : ∀ n c L' S1, n + c = nC a → T = L' ++ upF (fun c => upF (fun d => upF (tnL1 a r s t c d) (nC a) 0) (nC a) 0) n c → MVI L' S1 → Fr FMv S S1 → (∀ j, j ≠ 1 → S1.1 26 j = S.1 26 j) → AW g ρ (QV Q) (d + 5 + 1) mX5_addTurns 3 [(0, .ref 26), (1, .ref 21), (2, .int (nI r)), (3, .int (nI s)), (4, .int (nI t)), (5, .int (nI c))] [] ρ S1 := by
      intro n
      induction n with
      | zero =>
        intro c L' S1 hc eL m1 m2 m3
        refine eX5_addTurns_3 hρ ?_
        rw [(hIm m2).2.2.2.2.2.1, if_pos (nI_le (by omega) (by omega))]
        have eL : T = L' ++ [] := eL
        rw [List.append_nil] at eL
        rw [← eL] at m1
        exact h S1 m1 m2 m3
      | succ n ih =>
        intro c L' S1 hc eL m1 m2 m3
        refine eX5_addTurns_3 hρ ?_
        rw [(hIm m2).2.2.2.2.2.1, if_neg (nI_ge (by omega) (by omega)), if_neg (by rw [nI_eq (by omega) (by omega)]; exact est)]
        have eL2 : T = L' ++ (upF (fun d => upF (tnL1 a r s t c d) (nC a) 0) (nC a) 0 ++ upF (fun c => upF (fun d => upF (tnL1 a r s t c d) (nC a) 0) (nC a) 0) n (c + 1)) := eL
        generalize hRc : upF (fun c => upF (fun d => upF (tnL1 a r s t c d) (nC a) 0) (nC a) 0) n (c + 1) = Rc at eL2
        have ds : ∀ k x L2 S2, k + x = nC a → T = L2 ++ (upF (fun d => upF (tnL1 a r s t c d) (nC a) 0) k x ++ Rc) → MVI L2 S2 → Fr FMv S S2 → (∀ j, j ≠ 1 → S2.1 26 j = S.1 26 j) → AW g ρ (QV Q) (d + 5 + 1) mX5_addTurns 21 [(0, .ref 26), (1, .ref 21), (2, .int (nI r)), (3, .int (nI s)), (4, .int (nI t)), (5, .int (nI c)), (6, .int (nI x))] [] ρ S2 := by
          intro k
          induction k with
          | zero =>
            intro x L2 S2 hx eL3 p1 p2 p3
            refine eX5_addTurns_21 hρ ?_
            rw [(hIm p2).2.2.2.2.2.1, if_pos (nI_le (by omega) (by omega)), nI_1]
            exact ih (c + 1) L2 S2 (by omega) (by rw [hRc]; exact eL3) p1 p2 p3
          | succ k ihk =>
            intro x L2 S2 hx eL3 p1 p2 p3
            refine eX5_addTurns_21 hρ ?_
            rw [(hIm p2).2.2.2.2.2.1, if_neg (nI_ge (by omega) (by omega))]
            have eL4 : T = L2 ++ ((upF (tnL1 a r s t c x) (nC a) 0 ++ upF (fun d => upF (tnL1 a r s t c d) (nC a) 0) k (x + 1)) ++ Rc) := eL3
            rw [List.append_assoc (upF (tnL1 a r s t c x) (nC a) 0)] at eL4
            generalize hRd : upF (fun d => upF (tnL1 a r s t c d) (nC a) 0) k (x + 1) ++ Rc = Rd at eL4
            have es : ∀ m e L3 S3, m + e = nC a → T = L3 ++ (upF (tnL1 a r s t c x) m e ++ Rd) → MVI L3 S3 → Fr FMv S S3 → (∀ j, j ≠ 1 → S3.1 26 j = S.1 26 j) → AW g ρ (QV Q) (d + 5 + 1) mX5_addTurns 33 [(0, .ref 26), (1, .ref 21), (2, .int (nI r)), (3, .int (nI s)), (4, .int (nI t)), (5, .int (nI c)), (6, .int (nI x)), (7, .int (nI e))] [] ρ S3 := by
              intro m
              induction m with
              | zero =>
                intro e L3 S3 he eL5 q1 q2 q3
                refine eX5_addTurns_33 hρ ?_
                rw [(hIm q2).2.2.2.2.2.1, if_pos (nI_le (by omega) (by omega)), nI_1]
                exact ihk (x + 1) L3 S3 (by omega) (by rw [hRd]; exact eL5) q1 q2 q3
              | succ m ihm =>
                intro e L3 S3 he eL5 q1 q2 q3
                have hI3 := hIm q2
                have eL6 : T = L3 ++ ((tnL1 a r s t c x e ++ upF (tnL1 a r s t c x) m (e + 1)) ++ Rd) := eL5
                have skip : ¬ (c ≠ x ∧ x ≠ e ∧ e ≠ c ∧ freT a r s t c x e = true) → AW g ρ (QV Q) (d + 5 + 1) mX5_addTurns 33 [(0, .ref 26), (1, .ref 21), (2, .int (nI r)), (3, .int (nI s)), (4, .int (nI t)), (5, .int (nI c)), (6, .int (nI x)), (7, .int (nI e + 1))] [] ρ S3 := by
                  intro z
                  rw [nI_1]
                  have e0 : tnL1 a r s t c x e = [] := by unfold tnL1; rw [if_neg z]
                  rw [e0, List.nil_append] at eL6
                  exact ihm (e + 1) L3 S3 (by omega) eL6 q1 q2 q3
                have no : freT a r s t c x e = false → AW g ρ (QV Q) (d + 5 + 1) mX5_addTurns 109 [(0, .ref 26), (1, .ref 21), (2, .int (nI r)), (3, .int (nI s)), (4, .int (nI t)), (5, .int (nI c)), (6, .int (nI x)), (7, .int (nI e))] [.int 0] ρ S3 := by
                  intro z
                  refine eX5_addTurns_109 hρ ?_
                  have sk := skip (fun q => by rw [z] at q; exact absurd q.2.2.2 (by decide))
                  by_cases c1 : nI c = nI x
                  · rw [if_pos c1]; exact sk
                  · rw [if_neg c1]
                    by_cases c2 : nI x = nI e
                    · rw [if_pos c2]; exact sk
                    · rw [if_neg c2]
                      by_cases c3 : nI e = nI c
                      · rw [if_pos c3]; exact sk
                      · rw [if_neg c3, if_pos rfl]; exact sk
                have zz : (if false = true then (1 : Int32) else 0) = 0 := rfl
                refine eX5_addTurns_33 hρ ?_
                rw [hI3.2.2.2.2.2.1, if_neg (nI_ge (by omega) (by omega))]
                refine sC_isHole hρ hI3 (show r < 4 by omega) (show c < 4 by omega) ?_
                cases h1 : hol a r c with
                | true => rw [if_neg (by decide)]; exact no (by unfold freT; rw [h1]; rfl)
                | false =>
                  rw [if_pos zz]
                  refine sC_isHole hρ hI3 (show r < 4 by omega) (show x < 4 by omega) ?_
                  cases h2 : hol a r x with
                  | true => rw [if_neg (by decide)]; exact no (by unfold freT; rw [h1, h2]; rfl)
                  | false =>
                    rw [if_pos zz]
                    refine sC_isHole hρ hI3 (show s < 4 by omega) (show x < 4 by omega) ?_
                    cases h3 : hol a s x with
                    | true => rw [if_neg (by decide)]; exact no (by unfold freT; rw [h1, h2, h3]; rfl)
                    | false =>
                      rw [if_pos zz]
                      refine sC_isHole hρ hI3 (show s < 4 by omega) (show e < 4 by omega) ?_
                      cases h4 : hol a s e with
                      | true => rw [if_neg (by decide)]; exact no (by unfold freT; rw [h1, h2, h3, h4]; rfl)
                      | false =>
                        rw [if_pos zz]
                        refine sC_isHole hρ hI3 (show t < 4 by omega) (show e < 4 by omega) ?_
                        cases h5 : hol a t e with
                        | true => rw [if_neg (by decide)]; exact no (by unfold freT; rw [h1, h2, h3, h4, h5]; rfl)
                        | false =>
                          rw [if_pos zz]
                          refine sC_isHole hρ hI3 (show t < 4 by omega) (show c < 4 by omega) ?_
                          cases h6 : hol a t c with
                          | true => rw [if_neg (by decide)]; exact no (by unfold freT; rw [h1, h2, h3, h4, h5, h6]; rfl)
                          | false =>
                            rw [if_pos zz]
                            have hfr : freT a r s t c x e = true := by unfold freT; rw [h1, h2, h3, h4, h5, h6]; rfl
                            refine eX5_addTurns_109 hρ ?_
                            by_cases c1 : c = x
                            · rw [if_pos (by rw [c1])]; exact skip (fun q => q.1 c1)
                            · rw [if_neg (by rw [nI_eq (by omega) (by omega)]; exact c1)]
                              by_cases c2 : x = e
                              · rw [if_pos (by rw [c2])]; exact skip (fun q => q.2.1 c2)
                              · rw [if_neg (by rw [nI_eq (by omega) (by omega)]; exact c2)]
                                by_cases c3 : e = c
                                · rw [if_pos (by rw [c3])]; exact skip (fun q => q.2.2.1 c3)
                                · rw [if_neg (by rw [nI_eq (by omega) (by omega)]; exact c3), if_neg (by decide)]
                                  have e0 : tnL1 a r s t c x e = [(r, s, t, c, x, e)] := by unfold tnL1; rw [if_pos ⟨c1, c2, c3, hfr⟩]
                                  rw [e0] at eL6
                                  have hlen := congrArg List.length eL6
                                  rw [List.length_append, List.length_append, List.length_append] at hlen
                                  have h1l : ([(r, s, t, c, x, e)] : List MVt).length = 1 := rfl
                                  have r4 : r < 4 := by omega
                                  have s4' : s < 4 := by omega
                                  have t4 : t < 4 := by omega
                                  have c4 : c < 4 := by omega
                                  have x4 : x < 4 := by omega
                                  have e4 : e < 4 := by omega
                                  refine sC_one hρ r4 c4 (sC_one hρ s4' x4 (sC_one hρ t4 e4 (sC_one hρ r4 x4 (sC_one hρ s4' e4 (sC_one hρ t4 c4 (sC_shift hρ r4 x4 (sC_shift hρ s4' e4 (sC_shift hρ t4 c4 ?_))))))))
                                  refine sC_add (m := (r, s, t, c, x, e)) hρ hF (by omega) q1 (by unfold stepV; rw [if_neg est]; rfl) rfl rfl rfl (fun S4 t1 t2 t3 => ?_)
                                  rw [nI_1]
                                  exact ihm (e + 1) (L3 ++ [(r, s, t, c, x, e)]) S4 (by omega) (by rw [eL6, List.append_assoc, List.append_assoc]) t1 (Fr.tr q2 t2) (fun j hj => (t3 j hj).trans (q3 j hj))
            exact es (nC a) 0 L2 S2 (by omega) eL4 p1 p2 p3
        exact ds (nC a) 0 L' S1 (by omega) eL2 m1 m2 m3
    exact cs (nC a) 0 L S (by omega) (by rw [← hT, e2]) hM (Fr.rf S) (fun _ _ => rfl)
/-- the moves stand in the store -/
def MVd (a : AS) (S : St) : Prop := S.1 26 0 = nI (SWs a).length ∧ S.1 26 2 = nI (nR a * (nR a - 1) * nC a * (nC a - 1)) ∧ MVI (SWs a ++ TNs a) S
theorem sC_moves {Q : St → Prop} (hρ : Ok ρ) (hF : ∀ k, FMv k → gF g k) (hW : WF a) (hR : nR a ≠ 0) (hI : IB a S) (h : ∀ S', MVd a S' → Fr FMv S S' → Q S') : CALLv g (d + 7) mX5_make [.ref 26, .ref 21] ρ ρ S Q := by
  have hle := hW.le
  have hT := hW.told hR
  have cap := (swtn (nR a) (by omega) (nC a) (by omega)).2
  have l1 := SWs_le a
  have l2 := TNs_le a
  have hIm : ∀ {S'}, Fr FMv S S' → IB a S' := fun f => hI.fr (fun k hk z => by unfold FMv at z; omega) f
  have hF5 : ∀ k ∈ ([27, 28, 29, 30, 26] : List Nat), gF g k := fun k hk => hF k (by simp at hk; unfold FMv; omega)
  have hF26 : ∀ k ∈ ([26] : List Nat), gF g k := fun k hk => hF k (by simp at hk; unfold FMv; omega)
  have f26 : FMv 26 := by unfold FMv; omega
  refine eX5_make hρ hF26 ?_
  have hch : (((S.1 21 0) * ((S.1 21 0) - 1)) * (S.1 21 1)) * ((S.1 21 1) - 1) = nI (nR a * (nR a - 1) * nC a * (nC a - 1)) := by
    rw [hI.2.2.2.2.1, hI.2.2.2.2.2.1, show nI (nR a) - 1 = nI (nR a - 1) from pk_sub (b := 1) (by omega), show nI (nC a) - 1 = nI (nC a - 1) from pk_sub (b := 1) (by have := hT.2.2.1; omega), pk_mul, pk_mul, pk_mul]
  rw [hch]
  -- the turns
  generalize hAll : SWs a ++ TNs a = T at *
  have hTl : T.length ≤ 264 := by rw [← hAll, List.length_append]; omega
  have turns : ∀ n r L S1, n + r = nR a → T = L ++ upF (fun r => upF (fun s => upF (fun t => tnL2 a r s t) (nR a - (r + 1)) (r + 1)) (nR a - (r + 1)) (r + 1)) n r → MVI L S1 → S1.1 26 0 = nI (SWs a).length → S1.1 26 2 = nI (nR a * (nR a - 1) * nC a * (nC a - 1)) → Fr FMv S S1 → AW g ρ (QV Q) (d + 6 + 1) mX5_make 83 [(0, .ref 26), (1, .ref 21), (2, .int (nI r))] [] ρ S1 := by
    intro n
    induction n with
    | zero =>
      intro r L S1 hr eL m1 m2 m3 m4
      refine eX5_make_83 hρ ?_
      rw [(hIm m4).2.2.2.2.1, if_pos (nI_le (by omega) (by omega))]
      have eL : T = L ++ [] := eL
      rw [List.append_nil] at eL
      refine h S1 ⟨m2, m3, ?_⟩ m4
      rw [hAll, eL]
      exact m1
    | succ n ih =>
      intro r L S1 hr eL m1 m2 m3 m4
      have eL2 : T = L ++ (upF (fun s => upF (fun t => tnL2 a r s t) (nR a - (r + 1)) (r + 1)) (nR a - (r + 1)) (r + 1) ++ upF (fun r => upF (fun s => upF (fun t => tnL2 a r s t) (nR a - (r + 1)) (r + 1)) (nR a - (r + 1)) (r + 1)) n (r + 1)) := eL
      generalize hRc : upF (fun r => upF (fun s => upF (fun t => tnL2 a r s t) (nR a - (r + 1)) (r + 1)) (nR a - (r + 1)) (r + 1)) n (r + 1) = Rc at eL2
      refine eX5_make_83 hρ ?_
      rw [(hIm m4).2.2.2.2.1, if_neg (nI_ge (by omega) (by omega)), nI_1]
      have ss : ∀ k s L2 S2, k + s = nR a → r < s → T = L2 ++ (upF (fun s => upF (fun t => tnL2 a r s t) (nR a - (r + 1)) (r + 1)) k s ++ Rc) → MVI L2 S2 → S2.1 26 0 = nI (SWs a).length → S2.1 26 2 = nI (nR a * (nR a - 1) * nC a * (nC a - 1)) → Fr FMv S S2 → AW g ρ (QV Q) (d + 6 + 1) mX5_make 95 [(0, .ref 26), (1, .ref 21), (2, .int (nI r)), (3, .int (nI s))] [] ρ S2 := by
        intro k
        induction k with
        | zero =>
          intro s L2 S2 hs hrs eL3 p1 p2 p3 p4
          refine eX5_make_95 hρ ?_
          rw [(hIm p4).2.2.2.2.1, if_pos (nI_le (by omega) (by omega)), nI_1]
          exact ih (r + 1) L2 S2 (by omega) (by rw [hRc]; exact eL3) p1 p2 p3 p4
        | succ k ihk =>
          intro s L2 S2 hs hrs eL3 p1 p2 p3 p4
          have eL4 : T = L2 ++ ((upF (fun t => tnL2 a r s t) (nR a - (r + 1)) (r + 1) ++ upF (fun s => upF (fun t => tnL2 a r s t) (nR a - (r + 1)) (r + 1)) k (s + 1)) ++ Rc) := eL3
          rw [List.append_assoc (upF (fun t => tnL2 a r s t) (nR a - (r + 1)) (r + 1))] at eL4
          generalize hRd : upF (fun s => upF (fun t => tnL2 a r s t) (nR a - (r + 1)) (r + 1)) k (s + 1) ++ Rc = Rd at eL4
          refine eX5_make_95 hρ ?_
          rw [(hIm p4).2.2.2.2.1, if_neg (nI_ge (by omega) (by omega)), nI_1]
          have ts : ∀ m t L3 S3, m + t = nR a → r < t → T = L3 ++ (upF (fun t => tnL2 a r s t) m t ++ Rd) → MVI L3 S3 → S3.1 26 0 = nI (SWs a).length → S3.1 26 2 = nI (nR a * (nR a - 1) * nC a * (nC a - 1)) → Fr FMv S S3 → AW g ρ (QV Q) (d + 6 + 1) mX5_make 108 [(0, .ref 26), (1, .ref 21), (2, .int (nI r)), (3, .int (nI s)), (4, .int (nI t))] [] ρ S3 := by
            intro m
            induction m with
            | zero =>
              intro t L3 S3 ht hrt eL5 q1 q2 q3 q4
              refine eX5_make_108 hρ ?_
              rw [(hIm q4).2.2.2.2.1, if_pos (nI_le (by omega) (by omega)), nI_1]
              exact ihk (s + 1) L3 S3 (by omega) (by omega) (by rw [hRd]; exact eL5) q1 q2 q3 q4
            | succ m ihm =>
              intro t L3 S3 ht hrt eL5 q1 q2 q3 q4
              have eL6 : T = L3 ++ ((tnL2 a r s t ++ upF (fun t => tnL2 a r s t) m (t + 1)) ++ Rd) := eL5
              have hlen := congrArg List.length eL6
              rw [List.length_append, List.length_append, List.length_append] at hlen
              refine eX5_make_108 hρ ?_
              rw [(hIm q4).2.2.2.2.1, if_neg (nI_ge (by omega) (by omega)), nI_1]
              refine sC_addTurns hρ hF5 hW (hIm q4) (show r < nR a by omega) (show s < nR a by omega) (show t < nR a by omega) (by omega) q1 (fun S4 t1 t2 t3 => ?_)
              exact ihm (t + 1) (L3 ++ tnL2 a r s t) S4 (by omega) (by omega) (by rw [eL6, List.append_assoc, List.append_assoc]) t1 (by rw [t3 0 (by decide)]; exact q2) (by rw [t3 2 (by decide)]; exact q3) (Fr.tr q4 t2)
          exact ts (nR a - (r + 1)) (r + 1) L2 S2 (by omega) (by omega) eL4 p1 p2 p3 p4
      exact ss (nR a - (r + 1)) (r + 1) L S1 (by omega) (by omega) eL2 m1 m2 m3 m4
  -- the swaps
  have swaps : ∀ n r L S1, n + r = nR a → SWs a = L ++ upF (fun r => upF (fun s => swL2 a r s) (nR a - (r + 1)) (r + 1)) n r → MVI L S1 → S1.1 26 2 = nI (nR a * (nR a - 1) * nC a * (nC a - 1)) → Fr FMv S S1 → AW g ρ (QV Q) (d + 6 + 1) mX5_make 34 [(0, .ref 26), (1, .ref 21), (2, .int (nI r))] [] ρ S1 := by
    intro n
    induction n with
    | zero =>
      intro r L S1 hr eL m1 m3 m4
      refine eX5_make_34 hρ hF26 ?_
      rw [(hIm m4).2.2.2.2.1, if_pos (nI_le (by omega) (by omega)), m1.1]
      have eL : SWs a = L ++ [] := eL
      rw [List.append_nil] at eL
      refine turns (nR a) 0 (SWs a) _ (by omega) hAll.symm ?_ ?_ ?_ (Fr.tr m4 (Fr.setI (F := FMv) _ _ _ f26))
      · rw [eL]
        refine ⟨by rw [setI_at, if_neg (by omega)]; exact m1.1, fun i hi => ?_⟩
        unfold mvAt
        rw [setI_ne _ _ _ (by decide), setI_ne _ _ _ (by decide), setI_ne _ _ _ (by decide)]
        exact m1.2 i hi
      · rw [setI_at, if_pos ⟨rfl, rfl⟩, eL]
      · rw [setI_at, if_neg (by omega)]; exact m3
    | succ n ih =>
      intro r L S1 hr eL m1 m3 m4
      have eL2 : SWs a = L ++ (upF (fun s => swL2 a r s) (nR a - (r + 1)) (r + 1) ++ upF (fun r => upF (fun s => swL2 a r s) (nR a - (r + 1)) (r + 1)) n (r + 1)) := eL
      generalize hRc : upF (fun r => upF (fun s => swL2 a r s) (nR a - (r + 1)) (r + 1)) n (r + 1) = Rc at eL2
      refine eX5_make_34 hρ hF26 ?_
      rw [(hIm m4).2.2.2.2.1, if_neg (nI_ge (by omega) (by omega)), nI_1]
      have ss : ∀ k s L2 S2, k + s = nR a → r < s → SWs a = L2 ++ (upF (fun s => swL2 a r s) k s ++ Rc) → MVI L2 S2 → S2.1 26 2 = nI (nR a * (nR a - 1) * nC a * (nC a - 1)) → Fr FMv S S2 → AW g ρ (QV Q) (d + 6 + 1) mX5_make 46 [(0, .ref 26), (1, .ref 21), (2, .int (nI r)), (3, .int (nI s))] [] ρ S2 := by
        intro k
        induction k with
        | zero =>
          intro s L2 S2 hs hrs eL3 p1 p3 p4
          refine eX5_make_46 hρ ?_
          rw [(hIm p4).2.2.2.2.1, if_pos (nI_le (by omega) (by omega)), nI_1]
          exact ih (r + 1) L2 S2 (by omega) (by rw [hRc]; exact eL3) p1 p3 p4
        | succ k ihk =>
          intro s L2 S2 hs hrs eL3 p1 p3 p4
          have eL4 : SWs a = L2 ++ ((swL2 a r s ++ upF (fun s => swL2 a r s) k (s + 1)) ++ Rc) := eL3
          have hlen := congrArg List.length eL4
          rw [List.length_append, List.length_append, List.length_append] at hlen
          refine eX5_make_46 hρ ?_
          rw [(hIm p4).2.2.2.2.1, if_neg (nI_ge (by omega) (by omega)), nI_1]
          refine sC_addSwaps hρ hF5 hW (hIm p4) (show r < nR a by omega) (show s < nR a by omega) (by omega) p1 (fun S4 t1 t2 t3 => ?_)
          exact ihk (s + 1) (L2 ++ swL2 a r s) S4 (by omega) (by omega) (by rw [eL4, List.append_assoc, List.append_assoc]) t1 (by rw [t3 2 (by decide)]; exact p3) (Fr.tr p4 t2)
      exact ss (nR a - (r + 1)) (r + 1) L S1 (by omega) (by omega) eL2 m1 m3 m4
  refine swaps (nR a) 0 [] _ (by omega) rfl ⟨?_, fun i hi => absurd hi (by simp)⟩ ?_ (Fr.tr (Fr.setI (F := FMv) _ _ _ f26) (Fr.setI (F := FMv) _ _ _ f26))
  · rw [setI_at, if_neg (by omega), setI_at, if_pos ⟨rfl, rfl⟩]; rfl
  · rw [setI_at, if_pos ⟨rfl, rfl⟩]
end TN
