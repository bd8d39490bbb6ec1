-- A WALK, by the model
theorem in1000 {x : Int32} : ((1 : Int64) ≤ x.toInt64 ∧ x.toInt64 ≤ 1000) ↔ ¬ x < 1 ∧ ¬ 1000 < x := by
  have e1 : (1 : Int64).toInt = 1 := by decide
  have e2 : (1000 : Int64).toInt = 1000 := by decide
  have e3 : (1 : Int32).toInt = 1 := by decide
  have e4 : (1000 : Int32).toInt = 1000 := by decide
  rw [fa_le64, fa_le64, Int32.toInt_toInt64, Int32.lt_iff_toInt_lt, Int32.lt_iff_toInt_lt, e1, e2, e3, e4]
  omega
theorem in2e9 {x : Int32} : ((0 : Int64) ≤ x.toInt64 ∧ x.toInt64 ≤ 2000000000) ↔ ¬ x < 0 ∧ x ≤ 2000000000 := by
  have e1 : (0 : Int64).toInt = 0 := by decide
  have e2 : (2000000000 : Int64).toInt = 2000000000 := by decide
  have e3 : (0 : Int32).toInt = 0 := by decide
  have e4 : (2000000000 : Int32).toInt = 2000000000 := by decide
  rw [fa_le64, fa_le64, Int32.toInt_toInt64, Int32.lt_iff_toInt_lt, Int32.le_iff_toInt_le, e1, e2, e3, e4]
  omega
section MW
variable {g : GX} {d : Nat} {ρ : Rs} {S : St} {a : AS}
theorem sM_walk {Q : Int32 → St → Prop} (hρ : Ok ρ) (hF : ∀ k ∈ ([80, 81, 83] : List Nat), gF g k) (hW : WF a) (hI : IM a S) {x1 x2 : Int32} (h2 : ¬ wkG a x1 x2 → Q (-2) S) (h5 : wkG a x1 x2 → nA a = 20 → Q (-5) S) (h0 : ∀ m n, wkG a x1 x2 → nA a ≠ 20 → x1 = nI m → x2 = nI n → m < 2 ^ 31 → n < 2 ^ 31 → ∀ S', IM (wlk m (keepA a, n, 0)).1 S' → Fr (fun j => j = 80 ∨ j = 81 ∨ j = 83) S S' → Q (nI (wlk m (keepA a, n, 0)).2.2) S') : CALLi g (d + 3) mX12_walk [.ref 80, .int x1, .int x2] ρ ρ S Q := by
  have hl := hW.le
  have hF80 : ∀ k ∈ ([80] : List Nat), gF g k := fun k hk => hF k (by simp at hk; simp [hk])
  have hFa : ∀ k ∈ ([81, 83] : List Nat), gF g k := fun k hk => hF k (by simp at hk; rcases hk with q | q <;> simp [q])
  have hF81 : gF g 81 := hF 81 (by simp)
  refine eX12_walk hρ hF80 (sM_is hρ hW hI ?_)
  by_cases c0 : nR a = 0
  · rw [if_pos c0, if_pos rfl]; exact h2 (fun q => q.1 c0)
  rw [if_neg c0, if_neg (by decide)]
  refine sM_in hρ ?_
  by_cases c1 : (1 : Int64) ≤ x1.toInt64 ∧ x1.toInt64 ≤ 1000
  · rw [if_pos c1, if_neg (by decide)]
    refine sM_in hρ ?_
    by_cases c2 : (0 : Int64) ≤ x2.toInt64 ∧ x2.toInt64 ≤ 2000000000
    · rw [if_pos c2, if_neg (by decide)]
      have d1 := in1000.mp c1
      have d2 := in2e9.mp c2
      have gd : wkG a x1 x2 := ⟨c0, d1.1, d1.2, d2.1, d2.2⟩
      have e8 : S.1 81 4 = nI (nA a) := hI.2.2.2.2.2.2.2.2.1
      have iz : nI (nA a) = 20 ↔ nA a = 20 := nI_eq (b := 20) (by omega) (by omega)
      rw [e8]
      by_cases cf : nA a = 20
      · rw [if_pos (iz.mpr cf)]; exact h5 gd cf
      rw [if_neg (fun z => cf (iz.mp z))]
      have x1p : ¬ x1 < 0 := by
        intro z
        refine d1.1 ?_
        have e0 : (0 : Int32).toInt = 0 := by decide
        have e1 : (1 : Int32).toInt = 1 := by decide
        rw [Int32.lt_iff_toInt_lt] at z ⊢
        omega
      obtain ⟨m, hm, em⟩ := nI_of x1p
      obtain ⟨n, hn, en⟩ := nI_of d2.1
      have fin := h0 m n gd cf em en hm hn
      subst em en
      refine sM_keeps hρ hFa (by omega) hI (fun S1 i1 f1 => ?_)
      have im : ∀ (b : AS) (S' : St) v, IM b S' → IM b (setL S' 80 39 v) := fun b S' v q => q
      have sv : ∀ (S' : St) v, (setL S' 80 39 v).2 80 39 = v := fun S' v => by rw [setL_at, if_pos ⟨rfl, rfl⟩]
      have key : ∀ r i (q : AS × Nat × Nat) S2, i + r = m → WF q.1 → nR q.1 ≠ 0 → IM q.1 S2 → q.2.1 < 2147483648 → S2.2 80 39 = lN q.2.1 → Fr (fun j => j = 80 ∨ j = 81 ∨ j = 83) S S2 → wlk r q = wlk m (keepA a, n, 0) → AW g ρ (QI Q) (d + 3) mX12_walk 63 [(0, .ref 80), (1, .int (nI m)), (3, .int (nI q.2.2)), (4, .int (nI i))] [] ρ S2 := by
        intro r
        induction r with
        | zero =>
          intro i q S2 hi w1 w2 i2 hs e2 f2 he
          have he : q = wlk m (keepA a, n, 0) := he
          refine eX12_walk_63 hρ ?_
          rw [if_pos (nI_le (by omega) (by omega)), he]
          rw [he] at i2
          exact fin S2 i2 f2
        | succ r ih =>
          intro i q S2 hi w1 w2 i2 hs e2 f2 he
          obtain ⟨b, u, k⟩ := q
          have he : wlk r (stp (b, u, k)) = wlk m (keepA a, n, 0) := he
          have wf := stp_WF w1 w2
          have hin := wk_in w1 w2 u
          have hlb := w1.le
          have hs : u < 2147483648 := hs
          obtain ⟨t1, t2, t3, t4, -⟩ := w1.told w2
          have t1 : 2 ≤ nR b := t1
          have t2 : nR b ≤ 4 := t2
          have t3 : 2 ≤ nC b := t3
          have t4 : nC b ≤ 4 := t4
          have i2 : IM b S2 := i2
          refine eX12_walk_63 hρ ?_
          rw [if_neg (nI_ge (by omega) (by omega)), i2.2.2.2.2.1]
          refine sM_draw hρ hF80 hs (by omega) (by omega) e2 ?_
          have j1 := im b _ (lN (nxt u)) i2
          rw [j1.2.2.2.2.1]
          refine sM_drawOther (x := wR b u) hρ hF80 (nxt_lt _) t1 (by omega) (by have := hin.1; have : wR b u < nR b := this; omega) (sv _ _) ?_
          have j2 := im b _ (lN (nxt (nxt u))) j1
          rw [j2.2.2.2.2.2.1]
          refine sM_draw hρ hF80 (nxt_lt _) (by omega) (by omega) (sv _ _) ?_
          have j3 := im b _ (lN (nxt (nxt (nxt u)))) j2
          rw [j3.2.2.2.2.2.1]
          refine sM_drawOther (x := wC b u) hρ hF80 (nxt_lt _) t3 (by omega) (by have := hin.2.2.1; have : wC b u < nC b := this; omega) (sv _ _) ?_
          have j4 := im b _ (lN (nxt (nxt (nxt (nxt u))))) j3
          have f4 : Fr (fun j => j = 80 ∨ j = 81 ∨ j = 83) S2 (setL (setL (setL (setL S2 80 39 (lN (nxt u))) 80 39 (lN (nxt (nxt u)))) 80 39 (lN (nxt (nxt (nxt u))))) 80 39 (lN (nxt (nxt (nxt (nxt u)))))) := by
            exact (((Fr.setL (F := fun j => j = 80 ∨ j = 81 ∨ j = 83) S2 39 (lN (nxt u)) (Or.inl (show (80 : Nat) = 80 from rfl))).tr (Fr.setL _ 39 (lN (nxt (nxt u))) (Or.inl (show (80 : Nat) = 80 from rfl)))).tr (Fr.setL _ 39 (lN (nxt (nxt (nxt u)))) (Or.inl (show (80 : Nat) = 80 from rfl)))).tr (Fr.setL _ 39 (lN (nxt (nxt (nxt (nxt u))))) (Or.inl (show (80 : Nat) = 80 from rfl)))
          have e4 := sv (setL (setL (setL S2 80 39 (lN (nxt u))) 80 39 (lN (nxt (nxt u)))) 80 39 (lN (nxt (nxt (nxt u))))) (lN (nxt (nxt (nxt (nxt u)))))
          generalize setL (setL (setL (setL S2 80 39 (lN (nxt u))) 80 39 (lN (nxt (nxt u)))) 80 39 (lN (nxt (nxt (nxt u))))) 80 39 (lN (nxt (nxt (nxt (nxt u))))) = S4 at j4 f4 e4
          obtain ⟨q1, q2, q3, q4, q5, q6⟩ := hin
          refine sM_two (y1 := wR b u) (x1 := wC b u) (y2 := wS b u) (x2 := wE b u) hρ w1 j4 q1 q3 q2 q4 ?_
          refine sM_two (y1 := wR b u) (x1 := wE b u) (y2 := wS b u) (x2 := wC b u) hρ w1 j4 q1 q4 q2 q3 ?_
          refine sM_canSwap (r := wR b u) (s := wS b u) (c := wC b u) (e := wE b u) hρ w1 w2 j4 q1 q2 q3 q4 (fun z => ?_) (fun z => ?_)
          · rw [if_neg (by decide), nI_1, nI_1]
            refine sM_two (y1 := wR b u) (x1 := wC b u) (y2 := wS b u) (x2 := wE b u) hρ w1 j4 q1 q3 q2 q4 ?_
            refine sM_two (y1 := wR b u) (x1 := wE b u) (y2 := wS b u) (x2 := wC b u) hρ w1 j4 q1 q4 q2 q3 ?_
            refine sM_doSwap (r := wR b u) (s := wS b u) (c := wC b u) (e := wE b u) hρ hF81 w1 w2 j4 q1 q2 q3 q4 q5 q6 z (fun S5 i5 f5 => ?_)
            have nx := ih (i + 1) (stp (b, u, k)) S5 (by omega) wf.1 wf.2
            rw [stp_1 z] at nx he
            refine nx i5 (nxt_lt _) ?_ (f2.tr (f4.tr (f5.mono (fun k hk => Or.inr (Or.inl hk))))) he
            rw [(f5 80 (by decide)).2]; exact e4
          · rw [if_pos rfl, nI_1]
            have nx := ih (i + 1) (stp (b, u, k)) S4 (by omega) wf.1 wf.2
            rw [stp_0 z] at nx he
            exact nx j4 (nxt_lt _) e4 (f2.tr f4) he
      refine key m 0 (keepA a, n, 0) _ (by omega) (keepA_WF hW c0 (by omega)) c0 (im _ _ _ i1) (by show n < 2147483648; omega) ?_ ?_ rfl
      · rw [sv, nI_l hn]
      · exact (f1.mono (fun k hk => Or.inr hk)).tr (Fr.setL _ _ _ (Or.inl rfl))
    · rw [if_neg c2, if_pos rfl]
      exact h2 (fun q => c2 (in2e9.mpr ⟨q.2.2.2.1, q.2.2.2.2⟩))
  · rw [if_neg c1, if_pos rfl]
    exact h2 (fun q => c1 (in1000.mpr ⟨q.2.1, q.2.2.1⟩))
end MW
