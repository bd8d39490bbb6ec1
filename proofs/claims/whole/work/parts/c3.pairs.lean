-- ANSWERS AGREE
section PA
variable {g : GX} {d : Nat} {ρ : Rs} {S : St} {b : AS} {p : Bool}
theorem two_tables (hA : ∀ k, 16 ≤ k → gF g k) (hs : ST b p ρ S) : CALLl g (d + 29) mX11_tables [.ref 16] ρ ρ S (fun v1 S1 => CALLl g (d + 29) mX12_tables [.ref 80] ρ ρ S1 (fun v2 S2 => v1 = v2 ∧ ST b p ρ S2)) := by
  obtain ⟨a, V, hF⟩ := hs.fib
  refine sC_tables hs.ok hs.1 hs.ib (fun z => ⟨(hF z).1.1, (hF z).1.2.1, (hF z).1.2.2.1⟩) (fun c => ?_) (fun c => ?_)
  · refine mdL (Q := fun v S2 => _ = v ∧ IM b S2) hA Fm16 (sM_tables hs.ok (gFm (by intro k hk; simp at hk; omega)) hs.1 hs.2.2.2 (fun _ => ⟨rfl, hs.2.2.2⟩) (fun z => absurd c z)) (fun v S2 q f => ⟨q.1, hs.frm f q.2⟩)
  · obtain ⟨w, hw⟩ : ∃ w, w = lN (KK b).length := ⟨_, rfl⟩
    rw [← hw]
    refine mdL (Q := fun v S2 => _ = v ∧ IM b S2) hA Fm16 (sM_tables hs.ok (gFm (by intro k hk; simp at hk; omega)) hs.1 hs.2.2.2 (fun z => absurd z c) (fun _ S2 i2 => ⟨hw, i2⟩)) (fun v S2 q f => ⟨q.1, hs.frm f q.2⟩)
theorem two_rank (hA : ∀ k, 16 ≤ k → gF g k) (hs : ST b p ρ S) : CALLl g (d + 29) mX11_rank [.ref 16] ρ ρ S (fun v1 S1 => CALLl g (d + 29) mX12_rank [.ref 80] ρ ρ S1 (fun v2 S2 => v1 = v2 ∧ ST b p ρ S2)) := by
  obtain ⟨a, V, hF⟩ := hs.fib
  refine sC_rank hs.ok hs.1 hs.ib (fun z => ⟨(hF z).1.1, (hF z).1.2.1, (hF z).1.2.2.1⟩) (fun c => ?_) (fun c => ?_)
  · refine mdL (Q := fun v S2 => _ = v ∧ IM b S2) hA Fm16 (sM_rank hs.ok (gFm (by intro k hk; simp at hk; omega)) hs.1 hs.2.2.2 (fun _ => ⟨rfl, hs.2.2.2⟩) (fun z => absurd c z)) (fun v S2 q f => ⟨q.1, hs.frm f q.2⟩)
  · obtain ⟨w, hw⟩ : ∃ w, w = lN (rkK b (pack (cel b))) := ⟨_, rfl⟩
    rw [← hw]
    refine mdL (Q := fun v S2 => _ = v ∧ IM b S2) hA Fm16 (sM_rank hs.ok (gFm (by intro k hk; simp at hk; omega)) hs.1 hs.2.2.2 (fun z => absurd z c) (fun _ S2 i2 => ⟨hw, i2⟩)) (fun v S2 q f => ⟨q.1, hs.frm f q.2⟩)
theorem two_fixed (hA : ∀ k, 16 ≤ k → gF g k) (hs : ST b p ρ S) : CALLi g (d + 29) mX11_fixed [.ref 16] ρ ρ S (fun v1 S1 => CALLi g (d + 29) mX12_fixed [.ref 80] ρ ρ S1 (fun v2 S2 => v1 = v2 ∧ ST b p ρ S2)) := by
  obtain ⟨a, V, hF⟩ := hs.fib
  refine sC_fixed hs.ok hs.1 hs.ib (fun z => ⟨(hF z).1.1, (hF z).1.2.1, (hF z).1.2.2.1⟩) (fun c => ?_) (fun c => ?_)
  · refine mdI (Q := fun v S2 => _ = v ∧ IM b S2) hA Fm16 (sM_fixed hs.ok (gFm (by intro k hk; simp at hk; omega)) hs.1 hs.2.2.2 (fun _ => ⟨rfl, hs.2.2.2⟩) (fun z => absurd c z)) (fun v S2 q f => ⟨q.1, hs.frm f q.2⟩)
  · obtain ⟨w, hw⟩ : ∃ w, w = nI (fixV b (nR b * nC b)) := ⟨_, rfl⟩
    rw [← hw]
    refine mdI (Q := fun v S2 => _ = v ∧ IM b S2) hA Fm16 (sM_fixed hs.ok (gFm (by intro k hk; simp at hk; omega)) hs.1 hs.2.2.2 (fun z => absurd z c) (fun _ S2 i2 => ⟨hw, i2⟩)) (fun v S2 q f => ⟨q.1, hs.frm f q.2⟩)
theorem two_weight (hA : ∀ k, 16 ≤ k → gF g k) (hs : ST b p ρ S) : CALLl g (d + 29) mX11_weight [.ref 16] ρ ρ S (fun v1 S1 => CALLl g (d + 29) mX12_weight [.ref 80] ρ ρ S1 (fun v2 S2 => v1 = v2 ∧ ST b p ρ S2)) := by
  obtain ⟨a, V, hF⟩ := hs.fib
  refine sC_weight hs.ok hs.1 hs.ib (fun z => ⟨(hF z).1.1, (hF z).1.2.1, (hF z).1.2.2.1⟩) (fun c => ?_) (fun c => ?_)
  · refine mdL (Q := fun v S2 => _ = v ∧ IM b S2) hA Fm16 (sM_weight hs.ok (gFm (by intro k hk; simp at hk; omega)) hs.1 hs.2.2.2 (fun _ => ⟨rfl, hs.2.2.2⟩) (fun z => absurd c z)) (fun v S2 q f => ⟨q.1, hs.frm f q.2⟩)
  · obtain ⟨w, hw⟩ : ∃ w, w = lN (mea b 0 (cel b)) := ⟨_, rfl⟩
    rw [← hw]
    refine mdL (Q := fun v S2 => _ = v ∧ IM b S2) hA Fm16 (sM_weight hs.ok (gFm (by intro k hk; simp at hk; omega)) hs.1 hs.2.2.2 (fun z => absurd z c) (fun _ S2 i2 => ⟨hw, i2⟩)) (fun v S2 q f => ⟨q.1, hs.frm f q.2⟩)
theorem two_weights (hA : ∀ k, 16 ≤ k → gF g k) (hs : ST b p ρ S) : CALLl g (d + 29) mX11_weights [.ref 16] ρ ρ S (fun v1 S1 => CALLl g (d + 29) mX12_weights [.ref 80] ρ ρ S1 (fun v2 S2 => v1 = v2 ∧ ST b p ρ S2)) := by
  obtain ⟨a, V, hF⟩ := hs.fib
  refine sC_weights hs.ok hs.1 hs.ib (fun z => ⟨(hF z).1.1, (hF z).1.2.1, (hF z).1.2.2.1⟩) (fun c => ?_) (fun c => ?_)
  · refine mdL (Q := fun v S2 => _ = v ∧ IM b S2) hA Fm16 (sM_weights hs.ok (gFm (by intro k hk; simp at hk; omega)) hs.1 hs.2.2.2 (fun _ => ⟨rfl, hs.2.2.2⟩) (fun z => absurd c z)) (fun v S2 q f => ⟨q.1, hs.frm f q.2⟩)
  · obtain ⟨w, hw⟩ : ∃ w, w = lN (sml (wK b) (KK b)) := ⟨_, rfl⟩
    rw [← hw]
    refine mdL (Q := fun v S2 => _ = v ∧ IM b S2) hA Fm16 (sM_weights hs.ok (gFm (by intro k hk; simp at hk; omega)) hs.1 hs.2.2.2 (fun z => absurd z c) (fun _ S2 i2 => ⟨hw, i2⟩)) (fun v S2 q f => ⟨q.1, hs.frm f q.2⟩)
theorem two_evenly (hA : ∀ k, 16 ≤ k → gF g k) (hs : ST b p ρ S) : CALLi g (d + 29) mX11_evenly [.ref 16] ρ ρ S (fun v1 S1 => CALLi g (d + 29) mX12_evenly [.ref 80] ρ ρ S1 (fun v2 S2 => v1 = v2 ∧ ST b p ρ S2)) := by
  obtain ⟨a, V, hF⟩ := hs.fib
  refine sC_evenly hs.ok hs.1 hs.ib (fun z => ⟨(hF z).1.1, (hF z).1.2.1, (hF z).1.2.2.1⟩) (fun c => ?_) (fun c => ?_)
  · refine mdI (Q := fun v S2 => _ = v ∧ IM b S2) hA Fm16 (sM_evenly hs.ok (gFm (by intro k hk; simp at hk; omega)) hs.1 hs.2.2.2 (fun _ => ⟨rfl, hs.2.2.2⟩) (fun z => absurd c z)) (fun v S2 q f => ⟨q.1, hs.frm f q.2⟩)
  · obtain ⟨w, hw⟩ : ∃ w, w = nI (1073741824 / (KK b).length) := ⟨_, rfl⟩
    rw [← hw]
    refine mdI (Q := fun v S2 => _ = v ∧ IM b S2) hA Fm16 (sM_evenly hs.ok (gFm (by intro k hk; simp at hk; omega)) hs.1 hs.2.2.2 (fun z => absurd z c) (fun _ S2 i2 => ⟨hw, i2⟩)) (fun v S2 q f => ⟨q.1, hs.frm f q.2⟩)
theorem two_swaps (hA : ∀ k, 16 ≤ k → gF g k) (hs : ST b p ρ S) : CALLi g (d + 29) mX11_swaps [.ref 16] ρ ρ S (fun v1 S1 => CALLi g (d + 29) mX12_swaps [.ref 80] ρ ρ S1 (fun v2 S2 => v1 = v2 ∧ ST b p ρ S2)) := by
  obtain ⟨a, V, hF⟩ := hs.fib
  refine sC_swaps hs.ok hs.1 hs.ib (fun z => ⟨(hF z).1.1, (hF z).1.2.1, (hF z).2⟩) (fun c => ?_) (fun c => ?_)
  · refine mdI (Q := fun v S2 => _ = v ∧ IM b S2) hA Fm16 (sM_swaps hs.ok (gFm (by intro k hk; simp at hk; omega)) hs.1 hs.2.2.2 (fun _ => ⟨rfl, hs.2.2.2⟩) (fun z => absurd c z)) (fun v S2 q f => ⟨q.1, hs.frm f q.2⟩)
  · obtain ⟨w, hw⟩ : ∃ w, w = nI (swV b) := ⟨_, rfl⟩
    rw [← hw]
    refine mdI (Q := fun v S2 => _ = v ∧ IM b S2) hA Fm16 (sM_swaps hs.ok (gFm (by intro k hk; simp at hk; omega)) hs.1 hs.2.2.2 (fun z => absurd z c) (fun _ S2 i2 => ⟨hw, i2⟩)) (fun v S2 q f => ⟨q.1, hs.frm f q.2⟩)
theorem two_chi (hA : ∀ k, 16 ≤ k → gF g k) (hs : ST b p ρ S) : CALLl g (d + 29) mX11_chi [.ref 16] ρ ρ S (fun v1 S1 => CALLl g (d + 29) mX12_chi [.ref 80] ρ ρ S1 (fun v2 S2 => v1 = v2 ∧ ST b p ρ S2)) := by
  refine sC_chi hs.ok hs.1 hs.ib (fun c => ?_) (fun c => ?_)
  · refine mdL (Q := fun v S2 => _ = v ∧ IM b S2) hA Fm16 (sM_chi hs.ok hs.1 hs.2.2.2 (fun _ => ⟨rfl, hs.2.2.2⟩) (fun z => absurd c z)) (fun v S2 q f => ⟨q.1, hs.frm f q.2⟩)
  · refine mdL (Q := fun v S2 => _ = v ∧ IM b S2) hA Fm16 (sM_chi hs.ok hs.1 hs.2.2.2 (fun z => absurd z c) (fun _ => ⟨rfl, hs.2.2.2⟩)) (fun v S2 q f => ⟨q.1, hs.frm f q.2⟩)
theorem two_least {x1 x2 : Int32} (hA : ∀ k, 16 ≤ k → gF g k) (hs : ST b p ρ S) : CALLi g (d + 29) mX11_least [.ref 16, .int x1, .int x2] ρ ρ S (fun v1 S1 => CALLi g (d + 29) mX12_least [.ref 80, .int x1, .int x2] ρ ρ S1 (fun v2 S2 => v1 = v2 ∧ ST b p ρ S2)) := by
  obtain ⟨a, V, hF⟩ := hs.fib
  refine sC_least hs.ok hs.1 hs.ib (fun z => ⟨(hF z).1.1, (hF z).1.2.1, (hF z).1.2.2.1⟩) (fun c => ?_) (fun c1 c2 => ?_)
  · refine mdI (Q := fun v S2 => _ = v ∧ IM b S2) hA Fm16 (sM_least hs.ok (gFm (by intro k hk; simp at hk; omega)) hs.1 hs.2.2.2 (fun _ => ⟨rfl, hs.2.2.2⟩) (fun z1 z2 => absurd ⟨z1, z2⟩ c)) (fun v S2 q f => ⟨q.1, hs.frm f q.2⟩)
  · obtain ⟨w, hw⟩ : ∃ w, w = nI (leaV b (kOf b x1 x2)) := ⟨_, rfl⟩
    rw [← hw]
    refine mdI (Q := fun v S2 => _ = v ∧ IM b S2) hA Fm16 (sM_least hs.ok (gFm (by intro k hk; simp at hk; omega)) hs.1 hs.2.2.2 (fun z => absurd ⟨c1, c2⟩ z) (fun _ _ S2 i2 => ⟨hw, i2⟩)) (fun v S2 q f => ⟨q.1, hs.frm f q.2⟩)
theorem two_most {x1 x2 : Int32} (hA : ∀ k, 16 ≤ k → gF g k) (hs : ST b p ρ S) : CALLi g (d + 29) mX11_most [.ref 16, .int x1, .int x2] ρ ρ S (fun v1 S1 => CALLi g (d + 29) mX12_most [.ref 80, .int x1, .int x2] ρ ρ S1 (fun v2 S2 => v1 = v2 ∧ ST b p ρ S2)) := by
  obtain ⟨a, V, hF⟩ := hs.fib
  refine sC_most hs.ok hs.1 hs.ib (fun z => ⟨(hF z).1.1, (hF z).1.2.1, (hF z).1.2.2.1⟩) (fun c => ?_) (fun c1 c2 => ?_)
  · refine mdI (Q := fun v S2 => _ = v ∧ IM b S2) hA Fm16 (sM_most hs.ok (gFm (by intro k hk; simp at hk; omega)) hs.1 hs.2.2.2 (fun _ => ⟨rfl, hs.2.2.2⟩) (fun z1 z2 => absurd ⟨z1, z2⟩ c)) (fun v S2 q f => ⟨q.1, hs.frm f q.2⟩)
  · obtain ⟨w, hw⟩ : ∃ w, w = nI (mosV b (kOf b x1 x2)) := ⟨_, rfl⟩
    rw [← hw]
    refine mdI (Q := fun v S2 => _ = v ∧ IM b S2) hA Fm16 (sM_most hs.ok (gFm (by intro k hk; simp at hk; omega)) hs.1 hs.2.2.2 (fun z => absurd ⟨c1, c2⟩ z) (fun _ _ S2 i2 => ⟨hw, i2⟩)) (fun v S2 q f => ⟨q.1, hs.frm f q.2⟩)
theorem two_excess {x1 x2 : Int32} (hA : ∀ k, 16 ≤ k → gF g k) (hs : ST b p ρ S) : CALLi g (d + 29) mX11_excess [.ref 16, .int x1, .int x2] ρ ρ S (fun v1 S1 => CALLi g (d + 29) mX12_excess [.ref 80, .int x1, .int x2] ρ ρ S1 (fun v2 S2 => v1 = v2 ∧ ST b p ρ S2)) := by
  refine sC_excess hs.ok hs.1 hs.ib (fun c => ?_) (fun c1 c2 => ?_)
  · refine mdI (Q := fun v S2 => _ = v ∧ IM b S2) hA Fm16 (sM_excess hs.ok hs.1 hs.2.2.2 (fun _ => ⟨rfl, hs.2.2.2⟩) (fun z1 z2 => absurd ⟨z1, z2⟩ c)) (fun v S2 q f => ⟨q.1, hs.frm f q.2⟩)
  · refine mdI (Q := fun v S2 => _ = v ∧ IM b S2) hA Fm16 (sM_excess hs.ok hs.1 hs.2.2.2 (fun z => absurd ⟨c1, c2⟩ z) (fun _ _ => ⟨rfl, hs.2.2.2⟩)) (fun v S2 q f => ⟨q.1, hs.frm f q.2⟩)
theorem two_having {x1 x2 x3 : Int32} (hA : ∀ k, 16 ≤ k → gF g k) (hs : ST b p ρ S) : CALLl g (d + 29) mX11_having [.ref 16, .int x1, .int x2, .int x3] ρ ρ S (fun v1 S1 => CALLl g (d + 29) mX12_having [.ref 80, .int x1, .int x2, .int x3] ρ ρ S1 (fun v2 S2 => v1 = v2 ∧ ST b p ρ S2)) := by
  obtain ⟨a, V, hF⟩ := hs.fib
  refine sC_having hs.ok hs.1 hs.ib (fun z => ⟨(hF z).1.1, (hF z).1.2.1, (hF z).1.2.2.1⟩) (fun c => ?_) (fun c1 c2 c3 => ?_)
  · refine mdL (Q := fun v S2 => _ = v ∧ IM b S2) hA Fm16 (sM_having hs.ok (gFm (by intro k hk; simp at hk; omega)) hs.1 hs.2.2.2 (fun _ => ⟨rfl, hs.2.2.2⟩) (fun z1 z2 z3 => absurd ⟨z1, z2, z3⟩ c)) (fun v S2 q f => ⟨q.1, hs.frm f q.2⟩)
  · obtain ⟨w, hw⟩ : ∃ w, w = lN (seeK b (kOf b x1 x2) x3.toNatClampNeg) := ⟨_, rfl⟩
    rw [← hw]
    refine mdL (Q := fun v S2 => _ = v ∧ IM b S2) hA Fm16 (sM_having hs.ok (gFm (by intro k hk; simp at hk; omega)) hs.1 hs.2.2.2 (fun z => absurd ⟨c1, c2, c3⟩ z) (fun _ _ _ S2 i2 => ⟨hw, i2⟩)) (fun v S2 q f => ⟨q.1, hs.frm f q.2⟩)
theorem two_mean {x1 x2 x3 : Int32} (hA : ∀ k, 16 ≤ k → gF g k) (hs : ST b p ρ S) : CALLl g (d + 29) mX11_mean [.ref 16, .int x1, .int x2, .int x3] ρ ρ S (fun v1 S1 => CALLl g (d + 29) mX12_mean [.ref 80, .int x1, .int x2, .int x3] ρ ρ S1 (fun v2 S2 => v1 = v2 ∧ ST b p ρ S2)) := by
  obtain ⟨a, V, hF⟩ := hs.fib
  refine sC_mean hs.ok hs.1 hs.ib (fun z => ⟨(hF z).1.1, (hF z).1.2.1, (hF z).1.2.2.1⟩) (fun c => ?_) (fun c1 c2 c3 => ?_)
  · refine mdL (Q := fun v S2 => _ = v ∧ IM b S2) hA Fm16 (sM_mean hs.ok (gFm (by intro k hk; simp at hk; omega)) hs.1 hs.2.2.2 (fun _ => ⟨rfl, hs.2.2.2⟩) (fun z1 z2 z3 => absurd ⟨z1, z2, z3⟩ c)) (fun v S2 q f => ⟨q.1, hs.frm f q.2⟩)
  · obtain ⟨w, hw⟩ : ∃ w, w = lN (low (mnS (seeK b (kOf b x1 x2)) 21) (KK b).length x3.toNatClampNeg) := ⟨_, rfl⟩
    rw [← hw]
    refine mdL (Q := fun v S2 => _ = v ∧ IM b S2) hA Fm16 (sM_mean hs.ok (gFm (by intro k hk; simp at hk; omega)) hs.1 hs.2.2.2 (fun z => absurd ⟨c1, c2, c3⟩ z) (fun _ _ _ S2 i2 => ⟨hw, i2⟩)) (fun v S2 q f => ⟨q.1, hs.frm f q.2⟩)
theorem two_statistic {x1 : Int32} (hA : ∀ k, 16 ≤ k → gF g k) (hs : ST b p ρ S) : CALLl g (d + 29) mX11_statistic [.ref 16, .int x1] ρ ρ S (fun v1 S1 => CALLl g (d + 29) mX12_statistic [.ref 80, .int x1] ρ ρ S1 (fun v2 S2 => v1 = v2 ∧ ST b p ρ S2)) := by
  obtain ⟨a, V, hF⟩ := hs.fib
  refine sC_statistic hs.ok hs.1 hs.ib (fun z => ⟨(hF z).1.1, (hF z).1.2.1, (hF z).1.2.2.1⟩) (fun c => ?_) (fun c1 c2 => ?_)
  · refine mdL (Q := fun v S2 => _ = v ∧ IM b S2) hA Fm16 (sM_statistic hs.ok (gFm (by intro k hk; simp at hk; omega)) hs.1 hs.2.2.2 (fun _ => ⟨rfl, hs.2.2.2⟩) (fun z1 z2 => absurd ⟨z1, z2⟩ c)) (fun v S2 q f => ⟨q.1, hs.frm f q.2⟩)
  · obtain ⟨w, hw⟩ : ∃ w, w = lN (mea b x1.toNatClampNeg (cel b)) := ⟨_, rfl⟩
    rw [← hw]
    refine mdL (Q := fun v S2 => _ = v ∧ IM b S2) hA Fm16 (sM_statistic hs.ok (gFm (by intro k hk; simp at hk; omega)) hs.1 hs.2.2.2 (fun z => absurd ⟨c1, c2⟩ z) (fun _ _ S2 i2 => ⟨hw, i2⟩)) (fun v S2 q f => ⟨q.1, hs.frm f q.2⟩)
theorem two_drawn {x1 : Int32} (hA : ∀ k, 16 ≤ k → gF g k) (hs : ST b p ρ S) : CALLl g (d + 29) mX11_drawn [.ref 16, .int x1] ρ ρ S (fun v1 S1 => CALLl g (d + 29) mX12_drawn [.ref 80, .int x1] ρ ρ S1 (fun v2 S2 => v1 = v2 ∧ ST b p ρ S2)) := by
  obtain ⟨a, V, hF⟩ := hs.fib
  refine sC_drawn hs.ok hs.1 hs.ib (fun z => ⟨(hF z).1.1, (hF z).1.2.1, (hF z).1.2.2.1⟩) (fun c => ?_) (fun c1 c2 => ?_)
  · refine mdL (Q := fun v S2 => _ = v ∧ IM b S2) hA Fm16 (sM_drawn hs.ok (gFm (by intro k hk; simp at hk; omega)) hs.1 hs.2.2.2 (fun _ => ⟨rfl, hs.2.2.2⟩) (fun z1 z2 => absurd ⟨z1, z2⟩ c)) (fun v S2 q f => ⟨q.1, hs.frm f q.2⟩)
  · obtain ⟨w, hw⟩ : ∃ w, w = dwV b x1.toNatClampNeg := ⟨_, rfl⟩
    rw [← hw]
    refine mdL (Q := fun v S2 => _ = v ∧ IM b S2) hA Fm16 (sM_drawn hs.ok (gFm (by intro k hk; simp at hk; omega)) hs.1 hs.2.2.2 (fun z => absurd ⟨c1, c2⟩ z) (fun _ _ S2 i2 => ⟨hw, i2⟩)) (fun v S2 q f => ⟨q.1, hs.frm f q.2⟩)
theorem two_cell {x1 x2 : Int32} (hA : ∀ k, 16 ≤ k → gF g k) (hs : ST b p ρ S) : CALLi g (d + 29) mX11_cell [.ref 16, .int x1, .int x2] ρ ρ S (fun v1 S1 => CALLi g (d + 29) mX12_cell [.ref 80, .int x1, .int x2] ρ ρ S1 (fun v2 S2 => v1 = v2 ∧ ST b p ρ S2)) := by
  by_cases c : vp_in x1 (nR b) ∧ vp_in x2 (nC b)
  · refine sC_cell1 hs.ok hs.1 hs.ib c.1 c.2 ?_
    refine mdI (Q := fun v S2 => _ = v ∧ IM b S2) hA Fm16 (sM_cell1 hs.ok hs.1 hs.2.2.2 c.1 c.2 ⟨rfl, hs.2.2.2⟩) (fun v S2 q f => ⟨q.1, hs.frm f q.2⟩)
  · refine sC_cell0 hs.ok hs.1 hs.ib c ?_
    refine mdI (Q := fun v S2 => _ = v ∧ IM b S2) hA Fm16 (sM_cell0 hs.ok hs.1 hs.2.2.2 c ⟨rfl, hs.2.2.2⟩) (fun v S2 q f => ⟨q.1, hs.frm f q.2⟩)
theorem two_hole {x1 x2 : Int32} (hA : ∀ k, 16 ≤ k → gF g k) (hs : ST b p ρ S) : CALLi g (d + 29) mX11_hole [.ref 16, .int x1, .int x2] ρ ρ S (fun v1 S1 => CALLi g (d + 29) mX12_hole [.ref 80, .int x1, .int x2] ρ ρ S1 (fun v2 S2 => v1 = v2 ∧ ST b p ρ S2)) := by
  by_cases c : vp_in x1 (nR b) ∧ vp_in x2 (nC b)
  · refine sC_hole1 hs.ok hs.1 hs.ib c.1 c.2 ?_
    refine mdI (Q := fun v S2 => _ = v ∧ IM b S2) hA Fm16 (sM_hole1 hs.ok hs.1 hs.2.2.2 c.1 c.2 ⟨rfl, hs.2.2.2⟩) (fun v S2 q f => ⟨q.1, hs.frm f q.2⟩)
  · refine sC_hole0 hs.ok hs.1 hs.ib c ?_
    refine mdI (Q := fun v S2 => _ = v ∧ IM b S2) hA Fm16 (sM_hole0 hs.ok hs.1 hs.2.2.2 c ⟨rfl, hs.2.2.2⟩) (fun v S2 q f => ⟨q.1, hs.frm f q.2⟩)
theorem two_row {x1 : Int32} (hA : ∀ k, 16 ≤ k → gF g k) (hs : ST b p ρ S) : CALLi g (d + 29) mX11_row [.ref 16, .int x1] ρ ρ S (fun v1 S1 => CALLi g (d + 29) mX12_row [.ref 80, .int x1] ρ ρ S1 (fun v2 S2 => v1 = v2 ∧ ST b p ρ S2)) := by
  by_cases c : vp_in x1 (nR b)
  · refine sC_row1 hs.ok hs.1 hs.ib c ?_
    refine mdI (Q := fun v S2 => _ = v ∧ IM b S2) hA Fm16 (sM_row1 hs.ok hs.1 hs.2.2.2 c ⟨rfl, hs.2.2.2⟩) (fun v S2 q f => ⟨q.1, hs.frm f q.2⟩)
  · refine sC_row0 hs.ok hs.1 hs.ib c ?_
    refine mdI (Q := fun v S2 => _ = v ∧ IM b S2) hA Fm16 (sM_row0 hs.ok hs.1 hs.2.2.2 c ⟨rfl, hs.2.2.2⟩) (fun v S2 q f => ⟨q.1, hs.frm f q.2⟩)
theorem two_column {x1 : Int32} (hA : ∀ k, 16 ≤ k → gF g k) (hs : ST b p ρ S) : CALLi g (d + 29) mX11_column [.ref 16, .int x1] ρ ρ S (fun v1 S1 => CALLi g (d + 29) mX12_column [.ref 80, .int x1] ρ ρ S1 (fun v2 S2 => v1 = v2 ∧ ST b p ρ S2)) := by
  by_cases c : vp_in x1 (nC b)
  · refine sC_column1 hs.ok hs.1 hs.ib c ?_
    refine mdI (Q := fun v S2 => _ = v ∧ IM b S2) hA Fm16 (sM_column1 hs.ok hs.1 hs.2.2.2 c ⟨rfl, hs.2.2.2⟩) (fun v S2 q f => ⟨q.1, hs.frm f q.2⟩)
  · refine sC_column0 hs.ok hs.1 hs.ib c ?_
    refine mdI (Q := fun v S2 => _ = v ∧ IM b S2) hA Fm16 (sM_column0 hs.ok hs.1 hs.2.2.2 c ⟨rfl, hs.2.2.2⟩) (fun v S2 q f => ⟨q.1, hs.frm f q.2⟩)
theorem two_fault {x1 : Int32} (hA : ∀ k, 16 ≤ k → gF g k) (hs : ST b p ρ S) : CALLi g (d + 29) mX11_fault [.ref 16, .int x1] ρ ρ S (fun v1 S1 => CALLi g (d + 29) mX12_fault [.ref 80, .int x1] ρ ρ S1 (fun v2 S2 => v1 = v2 ∧ ST b p ρ S2)) := by
  refine sC_fault hs.ok hs.ib ?_
  refine mdI (Q := fun v S2 => _ = v ∧ IM b S2) hA Fm16 (sM_fault hs.ok hs.2.2.2 ⟨rfl, hs.2.2.2⟩) (fun v S2 q f => ⟨q.1, hs.frm f q.2⟩)
theorem two_count {x1 : Int32} (hA : ∀ k, 16 ≤ k → gF g k) (hs : ST b p ρ S) : CALLi g (d + 29) mX11_count [.ref 16, .int x1] ρ ρ S (fun v1 S1 => CALLi g (d + 29) mX12_count [.ref 80, .int x1] ρ ρ S1 (fun v2 S2 => v1 = v2 ∧ ST b p ρ S2)) := by
  refine sC_count hs.ok hs.ib ?_
  refine mdI (Q := fun v S2 => _ = v ∧ IM b S2) hA Fm16 (sM_count hs.ok hs.1 hs.2.2.2 ⟨rfl, hs.2.2.2⟩) (fun v S2 q f => ⟨q.1, hs.frm f q.2⟩)
theorem two_of {x1 : Int64} {x3 x4 : Int32} (hA : ∀ k, 16 ≤ k → gF g k) (hs : ST b p ρ S) : CALLi g (d + 29) mX11_of [.ref 16, .long x1, .int x3, .int x4] ρ ρ S (fun v1 S1 => CALLi g (d + 29) mX12_of [.ref 80, .long x1, .int x3, .int x4] ρ ρ S1 (fun v2 S2 => v1 = v2 ∧ ST b p ρ S2)) := by
  obtain ⟨a, V, hF⟩ := hs.fib
  refine sC_of hs.ok hs.1 hs.ib (fun z => ⟨(hF z).1.1, (hF z).1.2.1, (hF z).1.2.2.1⟩) (fun c => ?_) (fun m hm em c1 c2 => ?_)
  · refine mdI (Q := fun v S2 => _ = v ∧ IM b S2) hA Fm16 (sM_of2 hs.ok (gFm (by intro k hk; simp at hk; omega)) hs.1 hs.2.2.2 (fun _ => ⟨rfl, hs.2.2.2⟩) (fun m hm em z1 z2 => absurd ⟨z1, z2, by rw [em]; exact (lNle (m := 0) (by omega) hm).mpr (Nat.zero_le _)⟩ c)) (fun v S2 q f => ⟨q.1, hs.frm f q.2⟩)
  · refine mdI (Q := fun v S2 => _ = v ∧ IM b S2) hA Fm16 (sM_of2 hs.ok (gFm (by intro k hk; simp at hk; omega)) hs.1 hs.2.2.2 (fun z => absurd ⟨c1, c2, by rw [em]; exact (lNle (m := 0) (by omega) hm).mpr (Nat.zero_le _)⟩ z) (fun m2 hm2 em2 _ _ S2 i2 => ⟨by rw [show m2 = m from (lNeq (by omega) (by omega)).mp (em2.symm.trans em)], i2⟩)) (fun v S2 q f => ⟨q.1, hs.frm f q.2⟩)
theorem two_heaviest (hA : ∀ k, 16 ≤ k → gF g k) (hs : ST b p ρ S) : CALLl g (d + 29) mX11_heaviest [.ref 16] ρ ρ S (fun v1 S1 => CALLl g (d + 29) mX12_heaviest [.ref 80] ρ ρ S1 (fun v2 S2 => v1 = v2 ∧ ST b p ρ S2)) := by
  obtain ⟨a, V, hF⟩ := hs.fib
  refine sC_heaviest hs.ok (fun k hk => hA k (by unfold FMs at hk; omega)) hs.1 hs.ib (fun z => (hF z).1) (fun c => ?_) (fun c S1 i k1 f1 u1 => ?_)
  · refine mdL (Q := fun v S2 => _ = v ∧ IM b S2) hA Fm16 (sM_heaviest hs.ok (gFm (by intro k hk; simp at hk; omega)) hs.1 hs.2.2.2 (fun _ => ⟨rfl, hs.2.2.2⟩) (fun z => absurd c z)) (fun v S2 q f => ⟨q.1, hs.frm f q.2⟩)
  · have hs := hs.mea c k1 (hF c).2 f1
    refine mdL (Q := fun v S2 => _ = v ∧ IM b S2) hA Fm16 (sM_heaviest hs.ok (gFm (by intro k hk; simp at hk; omega)) hs.1 hs.2.2.2 (fun z => absurd z c) (fun _ S2 j i2 u2 => ⟨by rw [FM_un u1 u2], i2⟩)) (fun v S2 q f => ⟨q.1, hs.frm f q.2⟩)
theorem two_lightest (hA : ∀ k, 16 ≤ k → gF g k) (hs : ST b p ρ S) : CALLl g (d + 29) mX11_lightest [.ref 16] ρ ρ S (fun v1 S1 => CALLl g (d + 29) mX12_lightest [.ref 80] ρ ρ S1 (fun v2 S2 => v1 = v2 ∧ ST b p ρ S2)) := by
  obtain ⟨a, V, hF⟩ := hs.fib
  refine sC_lightest hs.ok (fun k hk => hA k (by unfold FMs at hk; omega)) hs.1 hs.ib (fun z => (hF z).1) (fun c => ?_) (fun c S1 i k1 f1 u1 => ?_)
  · refine mdL (Q := fun v S2 => _ = v ∧ IM b S2) hA Fm16 (sM_lightest hs.ok (gFm (by intro k hk; simp at hk; omega)) hs.1 hs.2.2.2 (fun _ => ⟨rfl, hs.2.2.2⟩) (fun z => absurd c z)) (fun v S2 q f => ⟨q.1, hs.frm f q.2⟩)
  · have hs := hs.mea c k1 (hF c).2 f1
    refine mdL (Q := fun v S2 => _ = v ∧ IM b S2) hA Fm16 (sM_lightest hs.ok (gFm (by intro k hk; simp at hk; omega)) hs.1 hs.2.2.2 (fun z => absurd z c) (fun _ S2 j i2 u2 => ⟨by rw [FN_un u1 u2], i2⟩)) (fun v S2 q f => ⟨q.1, hs.frm f q.2⟩)
theorem two_extreme {x1 : Int32} (hA : ∀ k, 16 ≤ k → gF g k) (hs : ST b p ρ S) : CALLl g (d + 29) mX11_extreme [.ref 16, .int x1] ρ ρ S (fun v1 S1 => CALLl g (d + 29) mX12_extreme [.ref 80, .int x1] ρ ρ S1 (fun v2 S2 => v1 = v2 ∧ ST b p ρ S2)) := by
  obtain ⟨a, V, hF⟩ := hs.fib
  refine sC_extreme hs.ok (fun k hk => hA k (by unfold FMs at hk; omega)) hs.1 hs.ib (fun z => (hF z).1) (fun c => ?_) (fun c1 c2 S1 k1 f1 => ?_)
  · refine mdL (Q := fun v S2 => _ = v ∧ IM b S2) hA Fm16 (sM_extreme hs.ok (gFm (by intro k hk; simp at hk; omega)) hs.1 hs.2.2.2 (fun _ => ⟨rfl, hs.2.2.2⟩) (fun z1 z2 => absurd ⟨z1, z2⟩ c)) (fun v S2 q f => ⟨q.1, hs.frm f q.2⟩)
  · have hs := hs.mea c1 k1 (hF c1).2 f1
    obtain ⟨w, hw⟩ : ∃ w, w = lN ((KK b).filter (sat b x1.toNatClampNeg (mea b x1.toNatClampNeg (cel b)))).length := ⟨_, rfl⟩
    rw [← hw]
    refine mdL (Q := fun v S2 => _ = v ∧ IM b S2) hA Fm16 (sM_extreme hs.ok (gFm (by intro k hk; simp at hk; omega)) hs.1 hs.2.2.2 (fun z => absurd ⟨c1, c2⟩ z) (fun _ _ S2 i2 => ⟨hw, i2⟩)) (fun v S2 q f => ⟨q.1, hs.frm f q.2⟩)
theorem two_share {x1 x2 : Int32} (hA : ∀ k, 16 ≤ k → gF g k) (hs : ST b p ρ S) : CALLl g (d + 29) mX11_share [.ref 16, .int x1, .int x2] ρ ρ S (fun v1 S1 => CALLl g (d + 29) mX12_share [.ref 80, .int x1, .int x2] ρ ρ S1 (fun v2 S2 => v1 = v2 ∧ ST b p ρ S2)) := by
  obtain ⟨a, V, hF⟩ := hs.fib
  refine sC_share hs.ok (fun k hk => hA k (by unfold FMs at hk; omega)) hs.1 hs.ib (fun z => (hF z).1) (fun c => ?_) (fun c1 c2 c3 S1 k1 f1 => ?_) (fun c1 c2 c3 S1 k1 f1 => ?_)
  · refine mdL (Q := fun v S2 => _ = v ∧ IM b S2) hA Fm16 (sM_share hs.ok (gFm (by intro k hk; simp at hk; omega)) hs.1 hs.2.2.2 (fun z => wts_lt hs.1 z) (fun _ => ⟨rfl, hs.2.2.2⟩) (fun z1 z2 z3 => absurd ⟨z1, z2⟩ c)) (fun v S2 q f => ⟨q.1, hs.frm f q.2⟩)
  · have hs := hs.mea c1 k1 (hF c1).2 f1
    refine mdL (Q := fun v S2 => _ = v ∧ IM b S2) hA Fm16 (sM_share hs.ok (gFm (by intro k hk; simp at hk; omega)) hs.1 hs.2.2.2 (fun z => wts_lt hs.1 z) (fun _ => ⟨rfl, hs.2.2.2⟩) (fun z1 z2 z3 => absurd z3 c3)) (fun v S2 q f => ⟨q.1, hs.frm f q.2⟩)
  · have hs := hs.mea c1 k1 (hF c1).2 f1
    obtain ⟨w, hw⟩ : ∃ w, w = lN (low (sml (wK b) ((KK b).filter (sat b x1.toNatClampNeg (mea b x1.toNatClampNeg (cel b))))) (sml (wK b) (KK b)) x2.toNatClampNeg) := ⟨_, rfl⟩
    rw [← hw]
    refine mdL (Q := fun v S2 => _ = v ∧ IM b S2) hA Fm16 (sM_share hs.ok (gFm (by intro k hk; simp at hk; omega)) hs.1 hs.2.2.2 (fun z => wts_lt hs.1 z) (fun z => absurd ⟨c1, c2, c3⟩ z) (fun _ _ _ S2 i2 => ⟨hw, i2⟩)) (fun v S2 q f => ⟨q.1, hs.frm f q.2⟩)
end PA
