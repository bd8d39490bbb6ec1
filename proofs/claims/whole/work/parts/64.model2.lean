-- THE MODEL READS THE TEXT: lines
section M3
variable {g : GX} {d : Nat} {ρ : Rs} {B : Nat → Nat} {L : Nat} {S0 S : St} {p R C ln : Nat} {h : Nat → Nat → Bool} {T : Nat} {t : Nat → Nat → Nat}
/-- what stays when mem alone is written -/
theorem CtM.mem (hc : CtM B L S0 p R C ln h T t S) {j : Nat} {v : Int32} {R' C' ln' : Nat} {h' : Nat → Nat → Bool} {t' : Nat → Nat → Nat} (hr : RdM R' C' ln' h' T t' (setI S 81 j v)) : CtM B L S0 p R' C' ln' h' T t' (setI S 81 j v) := by
  obtain ⟨⟨l1, l2, l3, l4⟩, c2, ⟨c3, c4, c5⟩, c6⟩ := hc
  refine ⟨⟨?_, ?_, ?_, fun z => ?_⟩, hr, ⟨c3.tr (Fr.setI _ _ _ (Or.inr rfl)), ⟨?_, fun i hi => ?_, c4.2.2⟩, ?_⟩, c6⟩
  · rw [setI_ne _ _ _ (by decide)]; exact l1
  · rw [setI_ne _ _ _ (by decide)]; exact l2
  · rw [setI_ne _ _ _ (by decide)]; exact l3
  · rw [setI_ne _ _ _ (by decide)]; exact l4 z
  · rw [setI_ne _ _ _ (by decide)]; exact c4.1
  · rw [setI_ne _ _ _ (by decide)]; exact c4.2.1 i hi
  · rw [setI_ne _ _ _ (by decide)]; exact c5
theorem CtM.tot (hc : CtM B L S0 p R C ln h T t S) {T' : Nat} : CtM B L S0 p R C ln h T' t (setI S 80 11 (nI T')) := by
  obtain ⟨⟨l1, l2, l3, l4⟩, ⟨r11, r0, r1, r2, r3, r4, r5⟩, ⟨c3, c4, c5⟩, c6⟩ := hc
  refine ⟨⟨?_, ?_, ?_, fun z => ?_⟩, ⟨?_, ?_, ?_, ?_, ?_, ?_, ?_⟩, ⟨c3.tr (Fr.setI _ _ _ (Or.inl rfl)), ⟨?_, fun i hi => ?_, c4.2.2⟩, ?_⟩, c6⟩
  · simp [setI_at, l1]
  · simp [setI_at, l2]
  · simp [setI_at, l3]
  · simp [setI_at, l4 z]
  · simp [setI_at]
  · simp [setI_at, r0]
  · simp [setI_at, r1]
  · simp [setI_at, r2]
  · simp [setI_at, r3]
  · simp [setI_at, r4]
  · intro k hk; simp [setI_at, r5 k hk]
  · simp [setI_at, c4.1]
  · simp [setI_at, c4.2.1 i hi]
  · simp [setI_at, c5]
theorem sM_readsTable {Q : St → Prop} (hρ : Ok ρ) (hF : ∀ k ∈ ([80, 81] : List Nat), gF g k) (hc : CtM B L S0 p 0 0 ln h0 T t0 S) (hE : ∀ e S', pSizes B L p = .inl e → BdM e S0 S' → Q S') (hO : ∀ s r c p5 S', pSizes B L p = (bd (pS B L p5) fun p6 => .inr (r, c, p6)) → s = (r, c) → (2 ≤ r ∧ r ≤ 4) → (2 ≤ c ∧ c ≤ 4) → CtM B L S0 p5 r c ln h0 T t0 S' → Q S') : CALLv g (d + 6) mX12_readsTable [.ref 80] ρ ρ S Q := by
  have hF0 : ∀ k ∈ ([80] : List Nat), gF g k := fun k hk => hF k (by simp at hk; simp [hk])
  have hF1 : ∀ k ∈ ([81] : List Nat), gF g k := fun k hk => hF k (by simp at hk; simp [hk])
  -- once it is bad
  have b69 : ∀ e S1, pSizes B L p = .inl e → BdM e S0 S1 → AW g ρ (QV Q) (d + 6) mX12_readsTable 69 [(0, .ref 80)] [.int 1, .ref 80] ρ S1 := by
    intro e S1 he hb
    refine eX12_readsTable_69 hρ hF1 (sM_passesB hρ hF0 hb.ne (sM_readsB hρ hF0 hb.ne (fun v => ?_)))
    exact hE e _ he (hb.set 1 v)
  have b32 : ∀ e S1, pSizes B L p = .inl e → BdM e S0 S1 → AW g ρ (QV Q) (d + 6) mX12_readsTable 32 [(0, .ref 80)] [.int 1, .ref 80] ρ S1 := by
    intro e S1 he hb
    refine eX12_readsTable_32 hρ hF1 (sM_passesB hρ hF0 hb.ne (sM_readsB hρ hF0 hb.ne (fun v => ?_)))
    rw [if_neg hb.ne]
    exact b69 e _ he (hb.set 0 v)
  refine eX12_readsTable hρ (sM_word hρ (by decide) hc (fun v0 hv0 => ?_))
  refine sM_passes hρ hF0 hc (fun z S1 b1 _ => ?_) (fun z S1 c1 => ?_)
  · rw [if_neg b1.ne]
    refine b32 _ S1 ?_ b1
    rcases hv0 with q | q
    · unfold pSizes; rw [bd_l q.2]
    · rw [q.1] at z; exact absurd z (by decide)
  have q1 : pW B L 0 p = .inr (tT B L p) := by
    rcases hv0 with q | q
    · exact absurd q.1 z
    · exact q.2
  rw [if_pos c1.2.2.1.2.2]
  refine sM_word hρ (by decide) c1 (fun v1 hv1 => ?_)
  -- the rest, once the second word is looked at
  have a32 : ∀ v, (v = 0 ∧ pW B L 1 (tT B L p) = .inl (1, tF B L (tT B L p)) ∨ v = 1 ∧ pW B L 1 (tT B L p) = .inr (tT B L (tT B L p))) → AW g ρ (QV Q) (d + 6) mX12_readsTable 32 [(0, .ref 80)] [.int v, .ref 80] ρ S1 := by
    intro v hv
    refine eX12_readsTable_32 hρ hF1 ?_
    refine sM_passes hρ hF0 c1 (fun z S2 b2 _ => ?_) (fun z S2 c2 => ?_)
    · have he : pSizes B L p = .inl (1, tF B L (tT B L p)) := by
        rcases hv with q | q
        · unfold pSizes; rw [bd_r q1, bd_l q.2]
        · rw [q.1] at z; exact absurd z (by decide)
      refine sM_readsB hρ hF0 b2.ne (fun v => ?_)
      rw [if_neg b2.ne]
      exact b69 _ _ he (b2.set 0 v)
    have q2 : pW B L 1 (tT B L p) = .inr (tT B L (tT B L p)) := by
      rcases hv with q | q
      · exact absurd q.1 z
      · exact q.2
    refine sM_reads hρ hF0 c2 (lo := 2) (hi := 4) rfl rfl (by decide) (by decide) (fun e v S3 q b3 _ => ?_) (fun r S3 q3 c3 => ?_)
    · rw [if_neg b3.ne]
      exact b69 e _ (by unfold pSizes; rw [bd_r q1, bd_r q2, bd_l q]) (b3.set 0 v)
    have hr := pN_le c2.2.2.2 q3
    rw [if_pos c3.2.2.1.2.2]
    have c4 : CtM B L S0 r.2 r.1 0 ln h0 T t0 (setI S3 81 0 (nI r.1)) := by
      refine c3.mem ?_
      obtain ⟨r11, r0, r1, r2, r3, r4, r5⟩ := c3.2.1
      refine ⟨?_, ?_, ?_, ?_, ?_, ?_, fun k hk => ?_⟩
      · simp [setI_at, r11]
      · simp [setI_at]
      · simp [setI_at, r1]
      · simp [setI_at, r2]; unfold hm; rw [Nat.mul_zero, Nat.mul_zero]
      · simp [setI_at, r3]
      · simp [setI_at, r4]
      · have e : ¬ 5 + k = 0 := by omega
        simp [setI_at, e, r5 k hk]
    have a69 : ∀ v, (v = 0 ∧ pW B L 2 r.2 = .inl (1, tF B L r.2) ∨ v = 1 ∧ pW B L 2 r.2 = .inr (tT B L r.2)) → AW g ρ (QV Q) (d + 6) mX12_readsTable 69 [(0, .ref 80)] [.int v, .ref 80] ρ (setI S3 81 0 (nI r.1)) := by
      intro v hv
      refine eX12_readsTable_69 hρ hF1 ?_
      refine sM_passes hρ hF0 c4 (fun z S5 b5 _ => ?_) (fun z S5 c5 => ?_)
      · have he : pSizes B L p = .inl (1, tF B L r.2) := by
          rcases hv with q | q
          · unfold pSizes; rw [bd_r q1, bd_r q2, bd_r q3, bd_l q.2]
          · rw [q.1] at z; exact absurd z (by decide)
        refine sM_readsB hρ hF0 b5.ne (fun v => ?_)
        exact hE _ _ he (b5.set 1 v)
      have q4 : pW B L 2 r.2 = .inr (tT B L r.2) := by
        rcases hv with q | q
        · exact absurd q.1 z
        · exact q.2
      refine sM_reads hρ hF0 c5 (lo := 2) (hi := 4) rfl rfl (by decide) (by decide) (fun e v S6 q b6 _ => ?_) (fun c S6 q5 c6 => ?_)
      · exact hE e _ (by unfold pSizes; rw [bd_r q1, bd_r q2, bd_r q3, bd_r q4, bd_l q]) (b6.set 1 v)
      have hcc := pN_le c5.2.2.2 q5
      refine hO (r.1, c.1) r.1 c.1 c.2 _ (by unfold pSizes; rw [bd_r q1, bd_r q2, bd_r q3, bd_r q4, bd_r q5]) rfl ⟨hr.2.1, hr.2.2.1⟩ ⟨hcc.2.1, hcc.2.2.1⟩ (c6.mem ?_)
      obtain ⟨r11, r0, r1, r2, r3, r4, r5⟩ := c6.2.1
      refine ⟨?_, ?_, ?_, ?_, ?_, ?_, fun k hk => ?_⟩
      · simp [setI_at, r11]
      · simp [setI_at, r0]
      · simp [setI_at]
      · have bz : ∀ n, bsum (fun _ => false) n = 0 := by
          intro n
          induction n with
          | zero => rfl
          | succ n ih => show bsum _ n + 0 = 0; rw [ih]
        have e1 : hm r.1 0 h0 = 0 := bz _
        have e2 : hm r.1 c.1 h0 = 0 := bz _
        rw [e2]
        rw [e1] at r2
        simp [setI_at, r2]
      · simp [setI_at, r3]
      · simp [setI_at, r4]
      · have e : ¬ 5 + k = 1 := by omega
        simp [setI_at, e, r5 k hk]; rfl
    refine sM_word hρ (by decide) c4 (fun v2 hv2 => ?_)
    by_cases cv : v2 = 0
    · rw [if_pos cv]
      rcases hv2 with q | q
      · exact a69 0 (Or.inl ⟨rfl, q.2⟩)
      · rw [q.1] at cv; exact absurd cv (by decide)
    · rw [if_neg cv]
      rcases hv2 with q | q
      · exact absurd q.1 cv
      · exact a69 1 (Or.inr ⟨rfl, q.2⟩)
  by_cases cv : v1 = 0
  · rw [if_pos cv]
    rcases hv1 with q | q
    · exact a32 0 (Or.inl ⟨rfl, q.2⟩)
    · rw [q.1] at cv; exact absurd cv (by decide)
  · rw [if_neg cv]
    rcases hv1 with q | q
    · exact absurd q.1 cv
    · exact a32 1 (Or.inr ⟨rfl, q.2⟩)
end M3
