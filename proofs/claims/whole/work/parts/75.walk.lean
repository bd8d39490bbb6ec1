-- A WALK
abbrev wR (a : AS) (n : Nat) : Nat := drw n (nR a)
abbrev wS (a : AS) (n : Nat) : Nat := dro (nxt n) (nR a) (wR a n)
abbrev wC (a : AS) (n : Nat) : Nat := drw (nxt (nxt n)) (nC a)
abbrev wE (a : AS) (n : Nat) : Nat := dro (nxt (nxt (nxt n))) (nC a) (wC a n)
def stp (q : AS × Nat × Nat) : AS × Nat × Nat :=
  if 0 < cel q.1 (wR q.1 q.2.1) (wE q.1 q.2.1) ∧ 0 < cel q.1 (wS q.1 q.2.1) (wC q.1 q.2.1) ∧ hol q.1 (wR q.1 q.2.1) (wC q.1 q.2.1) = false ∧ hol q.1 (wS q.1 q.2.1) (wE q.1 q.2.1) = false
  then (swA q.1 (wR q.1 q.2.1) (wS q.1 q.2.1) (wC q.1 q.2.1) (wE q.1 q.2.1), nxt (nxt (nxt (nxt q.2.1))), q.2.2 + 1)
  else (q.1, nxt (nxt (nxt (nxt q.2.1))), q.2.2)
theorem stp_1 {a : AS} {n k : Nat} (h : canS a (wR a n) (wS a n) (wC a n) (wE a n)) : stp (a, n, k) = (swA a (wR a n) (wS a n) (wC a n) (wE a n), nxt (nxt (nxt (nxt n))), k + 1) := if_pos h
theorem stp_0 {a : AS} {n k : Nat} (h : ¬ canS a (wR a n) (wS a n) (wC a n) (wE a n)) : stp (a, n, k) = (a, nxt (nxt (nxt (nxt n))), k) := if_neg h
def wlk : Nat → AS × Nat × Nat → AS × Nat × Nat
  | 0, q => q
  | n + 1, q => wlk n (stp q)
theorem wk_in {a : AS} (hW : WF a) (hR : nR a ≠ 0) (n : Nat) : wR a n < nR a ∧ wS a n < nR a ∧ wC a n < nC a ∧ wE a n < nC a ∧ wR a n ≠ wS a n ∧ wC a n ≠ wE a n := by
  obtain ⟨t1, t2, t3, t4, -⟩ := hW.told hR
  have h1 := drw_lt (n := n) (m := nR a) (by omega)
  have h2 := dro_lt (n := nxt n) (m := nR a) (x := wR a n) t1
  have h3 := drw_lt (n := nxt (nxt n)) (m := nC a) (by omega)
  have h4 := dro_lt (n := nxt (nxt (nxt n))) (m := nC a) (x := wC a n) t3
  exact ⟨h1, h2.1, h3, h4.1, Ne.symm h2.2, Ne.symm h4.2⟩
theorem stp_WF {q : AS × Nat × Nat} (hW : WF q.1) (hR : nR q.1 ≠ 0) : WF (stp q).1 ∧ nR (stp q).1 ≠ 0 := by
  obtain ⟨a, n, k⟩ := q
  have hi := wk_in hW hR n
  have hR : nR a ≠ 0 := hR
  by_cases c : canS a (wR a n) (wS a n) (wC a n) (wE a n)
  · rw [stp_1 c]
    exact ⟨swA_WF hW hR hi.1 hi.2.1 hi.2.2.1 hi.2.2.2.1 hi.2.2.2.2.1 hi.2.2.2.2.2 c, hR⟩
  · rw [stp_0 c]
    exact ⟨hW, hR⟩
theorem wlk_WF : ∀ (m : Nat) (q : AS × Nat × Nat), WF q.1 → nR q.1 ≠ 0 → WF (wlk m q).1 ∧ nR (wlk m q).1 ≠ 0
  | 0, q, h, h2 => ⟨h, h2⟩
  | m + 1, q, h, h2 => wlk_WF m (stp q) (stp_WF h h2).1 (stp_WF h h2).2
/-- the lines of a walk are sound -/
def wkG (a : AS) (x1 x2 : Int32) : Prop := nR a ≠ 0 ∧ ¬ x1 < 1 ∧ ¬ 1000 < x1 ∧ ¬ x2 < 0 ∧ x2 ≤ 2000000000
section WK
variable {g : GX} {d : Nat} {ρ : Rs} {S : St} {a : AS}
theorem sC_choose {Q : Int32 → St → Prop} (hρ : Ok ρ) (hF : ∀ k ∈ ([21, 25] : List Nat), gF g k) (hW : WF a) (hR : nR a ≠ 0) {n k : Nat} (hI : IB a S) (e : S.2 25 0 = lN n) (h : ∀ S' v, IB (stp (a, n, k)).1 S' → S'.2 25 0 = lN (stp (a, n, k)).2.1 → Fr (fun j => j = 21 ∨ j = 25) S S' → (v = 1 ∧ (stp (a, n, k)).2.2 = k + 1 ∨ v = 0 ∧ (stp (a, n, k)).2.2 = k) → Q v S') : CALLi g (d + 7) mX9_choose [.ref 21, .ref 25] ρ ρ S Q := by
  have hl := hW.le
  obtain ⟨t1, t2, t3, t4, -⟩ := hW.told hR
  have hi := wk_in hW hR n
  have hF25 : ∀ k ∈ ([25] : List Nat), gF g k := fun k hk => hF k (by simp at hk; simp [hk])
  have hF21 : ∀ k ∈ ([21] : List Nat), gF g k := fun k hk => hF k (by simp at hk; simp [hk])
  have ib : ∀ (S' : St) v, IB a S' → IB a (setL S' 25 0 v) := fun S' v q => q.fr (F := fun j => j = 25) (fun k hk => by omega) (Fr.setL _ _ _ rfl)
  have sv : ∀ (S' : St) v, (setL S' 25 0 v).2 25 0 = v := fun S' v => by rw [setL_at, if_pos ⟨rfl, rfl⟩]
  refine eX9_choose hρ ?_
  rw [hI.2.2.2.2.1]
  refine sC_draw hρ hF25 (by omega) (by omega) e ?_
  have i1 := ib S (lN (nxt n)) hI
  rw [i1.2.2.2.2.1]
  refine sC_drawOther (x := wR a n) hρ hF25 t1 (by omega) (by have := hi.1; omega) (sv _ _) ?_
  have i2 := ib _ (lN (nxt (nxt n))) i1
  rw [i2.2.2.2.2.2.1]
  refine sC_draw hρ hF25 (by omega) (by omega) (sv _ _) ?_
  have i3 := ib _ (lN (nxt (nxt (nxt n)))) i2
  rw [i3.2.2.2.2.2.1]
  refine sC_drawOther (x := wC a n) hρ hF25 t3 (by omega) (by have := hi.2.2.1; omega) (sv _ _) ?_
  have i4 := ib _ (lN (nxt (nxt (nxt (nxt n))))) i3
  have f4 : Fr (fun j => j = 21 ∨ j = 25) S (setL (setL (setL (setL S 25 0 (lN (nxt n))) 25 0 (lN (nxt (nxt n)))) 25 0 (lN (nxt (nxt (nxt n))))) 25 0 (lN (nxt (nxt (nxt (nxt n)))))) := by
    exact (((Fr.setL (F := fun j => j = 21 ∨ j = 25) S 0 (lN (nxt n)) (Or.inr (show (25 : Nat) = 25 from rfl))).tr (Fr.setL _ 0 (lN (nxt (nxt n))) (Or.inr (show (25 : Nat) = 25 from rfl)))).tr (Fr.setL _ 0 (lN (nxt (nxt (nxt n)))) (Or.inr (show (25 : Nat) = 25 from rfl)))).tr (Fr.setL _ 0 (lN (nxt (nxt (nxt (nxt n))))) (Or.inr (show (25 : Nat) = 25 from rfl)))
  have e4 := sv (setL (setL (setL S 25 0 (lN (nxt n))) 25 0 (lN (nxt (nxt n)))) 25 0 (lN (nxt (nxt (nxt n))))) (lN (nxt (nxt (nxt (nxt n)))))
  generalize setL (setL (setL (setL S 25 0 (lN (nxt n))) 25 0 (lN (nxt (nxt n)))) 25 0 (lN (nxt (nxt (nxt n))))) 25 0 (lN (nxt (nxt (nxt (nxt n))))) = S4 at i4 f4 e4
  refine sC_canSwap hρ hW hR i4 (r := wR a n) (s := wS a n) (c := wC a n) (e := wE a n) (by omega) (by omega) (by omega) (by omega) (fun q => ?_) (fun q => ?_)
  · rw [if_neg (by decide)]
    refine sC_doSwap (r := wR a n) (s := wS a n) (c := wC a n) (e := wE a n) hρ hF21 i4 (by omega) (by omega) (by omega) (by omega) hi.2.2.2.2.1 hi.2.2.2.2.2 q (fun S5 i5 f5 => ⟨Or.inr rfl, ?_⟩)
    refine h S5 1 ?_ ?_ (f4.tr (f5.mono (fun k hk => Or.inl hk))) (Or.inl ⟨rfl, ?_⟩)
    · rw [stp_1 q]; exact i5
    · rw [stp_1 q, (f5 25 (by decide)).2]; exact e4
    · rw [stp_1 q]
  · rw [if_pos rfl]
    refine ⟨Or.inl rfl, h S4 0 ?_ ?_ f4 (Or.inr ⟨rfl, ?_⟩)⟩
    · rw [stp_0 q]; exact i4
    · rw [stp_0 q]; exact e4
    · rw [stp_0 q]
theorem sC_walk {Q : Int32 → St → Prop} (hρ : Ok ρ) (hF : ∀ k ∈ ([24, 21, 25] : List Nat), gF g k) (hW : WF a) (hI : IB a S) {x1 x2 : Int32} (h2 : ¬ wkG a x1 x2 → Q (-2) S) (h5 : wkG a x1 x2 → nA a = 20 → Q (-5) S) (h0 : ∀ m n, wkG a x1 x2 → nA a ≠ 20 → x1 = nI m → x2 = nI n → m < 2 ^ 31 → n < 2 ^ 31 → ∀ S', IB (wlk m (keepA a, n, 0)).1 S' → Fr (fun j => j = 21 ∨ j = 24 ∨ j = 25) S S' → Q (nI (wlk m (keepA a, n, 0)).2.2) S') : CALLi g (d + 8) mX11_walk [.ref 16, .int x1, .int x2] ρ ρ S Q := by
  have hl := hW.le
  have hFa : ∀ k ∈ ([24, 21] : List Nat), gF g k := fun k hk => hF k (by simp at hk; rcases hk with q | q <;> simp [q])
  have hFb : ∀ k ∈ ([21, 25] : List Nat), gF g k := fun k hk => hF k (by simp at hk; rcases hk with q | q <;> simp [q])
  refine eX11_walk hρ (sC_isTold hρ hW hI ?_)
  by_cases c0 : nR a = 0
  · rw [if_pos c0, if_pos rfl]; exact h2 (fun q => q.1 c0)
  rw [if_neg c0, if_neg (by decide)]
  by_cases c1 : x1 < 1
  · rw [if_pos c1]; exact h2 (fun q => q.2.1 c1)
  rw [if_neg c1]
  by_cases c2 : (1000 : Int32) < x1
  · rw [if_pos c2]; exact h2 (fun q => q.2.2.1 c2)
  rw [if_neg c2]
  by_cases c3 : x2 < 0
  · rw [if_pos c3]; exact h2 (fun q => q.2.2.2.1 c3)
  rw [if_neg c3]
  by_cases c4 : x2 ≤ 2000000000
  · rw [if_pos c4]
    have gd : wkG a x1 x2 := ⟨c0, c1, c2, c3, c4⟩
    refine sC_isFull hρ hW hI ?_
    by_cases cf : nA a = 20
    · rw [if_pos cf, if_neg (by decide)]; exact h5 gd cf
    rw [if_neg cf, if_pos rfl]
    have x1p : ¬ x1 < 0 := by
      intro z
      refine c1 ?_
      have e0 : (0 : Int32).toInt = 0 := by decide
      have e1 : (1 : Int32).toInt = 1 := by decide
      rw [Int32.lt_iff_toInt_lt] at z ⊢
      omega
    obtain ⟨m, hm, em⟩ := nI_of x1p
    obtain ⟨n, hn, en⟩ := nI_of c3
    have fin := h0 m n gd cf em en hm hn
    subst em en
    refine sC_remember hρ hFa (by omega) hI (fun S1 i1 f1 => ?_)
    refine eX0_start hρ (fun k hk => hF k (by simp at hk; simp [hk])) ?_
    have key : ∀ r i (q : AS × Nat × Nat) S2, i + r = m → WF q.1 → nR q.1 ≠ 0 → IB q.1 S2 → S2.2 25 0 = lN q.2.1 → Fr (fun j => j = 21 ∨ j = 24 ∨ j = 25) S S2 → wlk r q = wlk m (keepA a, n, 0) → AW g ρ (QI Q) (d + 8) mX11_walk 69 [(0, .ref 16), (1, .int (nI m)), (3, .int (nI q.2.2)), (4, .int (nI i))] [] ρ S2 := by
      intro r
      induction r with
      | zero =>
        intro i q S2 hi w1 w2 i2 e2 f2 he
        have he : q = wlk m (keepA a, n, 0) := he
        refine eX11_walk_69 hρ ?_
        rw [if_pos (nI_le (by omega) (by omega)), he]
        rw [he] at i2
        exact fin S2 i2 f2
      | succ r ih =>
        intro i q S2 hi w1 w2 i2 e2 f2 he
        have he : wlk r (stp q) = wlk m (keepA a, n, 0) := he
        refine eX11_walk_69 hρ ?_
        rw [if_neg (nI_ge (by omega) (by omega))]
        have wf := stp_WF w1 w2
        refine sC_choose (a := q.1) (n := q.2.1) (k := q.2.2) hρ hFb w1 w2 i2 e2 (fun S3 v i3 e3 f3 hv => ?_)
        have f23 := f2.tr (f3.mono (fun k hk => hk.elim Or.inl (fun z => Or.inr (Or.inr z))))
        have nx := ih (i + 1) (stp q) S3 (by omega) wf.1 wf.2 i3 e3 f23 he
        rcases hv with ⟨rfl, hv⟩ | ⟨rfl, hv⟩
        · rw [if_neg (by decide), nI_1, nI_1]
          have hv : (stp q).2.2 = q.2.2 + 1 := hv
          rw [hv] at nx
          exact nx
        · rw [if_pos rfl, nI_1]
          have hv : (stp q).2.2 = q.2.2 := hv
          rw [hv] at nx
          exact nx
    refine key m 0 (keepA a, n, 0) _ (by omega) (keepA_WF hW c0 (by omega)) c0 ?_ ?_ ?_ rfl
    · exact i1.fr (F := fun j => j = 25) (fun k hk => by omega) (Fr.setL _ _ _ rfl)
    · rw [setL_at, if_pos ⟨rfl, rfl⟩, nI_l hn]
    · exact (f1.mono (fun k hk => hk.elim Or.inl (fun z => Or.inr (Or.inl z)))).tr (Fr.setL _ _ _ (Or.inr (Or.inr rfl)))
  · rw [if_neg c4]; exact h2 (fun q => c4 q.2.2.2.2)
end WK
