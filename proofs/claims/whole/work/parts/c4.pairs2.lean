-- ACTS AND THE NET: answers agree
section PB
variable {g : GX} {d : Nat} {ρ : Rs} {S : St} {b : AS} {p : Bool}
theorem IM.cl {S1 : St} (hi : IM b S) {F : Nat → Prop} (f : Fr F S S1) (hF : ∀ k, F k → k ≤ 79 ∨ 95 ≤ k) : IM b S1 := hi.fr (F := F) (fun k hk z => by have := hF k z; omega) f
theorem ST.net {ρ' : Rs} {p' : Bool} {S1 : St} (h : ST b p ρ S) (hN : NR ρ') (ik : IK b ρ' p' S1) (fr : Fr FNt S S1) : ST b p' ρ' S1 := ⟨h.1, hN, ik, h.2.2.2.cl fr (fun k hk => by unfold FNt at hk; omega)⟩
def fdQ (b : AS) (ρ : Rs) : Rs := if tL b + 20 ≤ 300 then newR ρ 5 5 else ρ
def fdA (b : AS) (w : Nat → Int32) : AS := if tL b + 20 ≤ 300 then fedA b w else b
theorem two_feed {w1 w2 w3 w4 w5 : Int32} (hA : ∀ k, 16 ≤ k → gF g k) (hs : ST b p ρ S) : CALLi g (d + 29) mX11_feed [.ref 16, .int w1, .int w2, .int w3, .int w4, .int w5] ρ ρ S (fun v1 S1 => CALLi g (d + 29) mX12_feed [.ref 80, .int w1, .int w2, .int w3, .int w4, .int w5] ρ (fdQ b ρ) S1 (fun v2 S2 => v1 = v2 ∧ ST (fdA b (wd5 w1 w2 w3 w4 w5)) p (fdQ b ρ) S2)) := by
  have hN : 95 ≤ rn ρ := hs.2.1.1.1
  unfold fdQ fdA
  by_cases c : tL b + 20 ≤ 300
  · rw [if_pos c, if_pos c]
    refine sC_feed1 hs.ok (fun k hk => hA k (by simp at hk; omega)) hs.ib c (fun S1 ib f1 => ?_)
    have im1 : IM b S1 := hs.2.2.2.cl f1 (fun k hk => by omega)
    refine mdI (F := Fmn (rn ρ)) (Q := fun v S2 => nI (tL b + 20) = v ∧ IM (fedA b (wd5 w1 w2 w3 w4 w5)) S2 ∧ Fr (fun k => k = 80 ∨ k = 84 ∨ k = rn ρ) S1 S2) hA (fun k hk => by unfold Fmn at hk; omega) (sM_feed1 hs.ok (fun k hk => by show Fmn (rn ρ) k; unfold Fmn; simp at hk; omega) (Or.inr rfl) im1 c (fun S2 i2 f2 => ⟨rfl, i2, f2⟩)) (fun v S2 q f => ⟨q.1, ?_⟩)
    have hf : ∀ k, 26 ≤ k → k ≤ 79 ∨ (95 ≤ k ∧ k < rn ρ) → S2.1 k = S.1 k ∧ S2.2 k = S.2 k := fun k h1 h2 => by
      have e1 := q.2.2 k (by omega)
      have e2 := f1 k (by omega)
      exact ⟨e1.1.trans e2.1, e1.2.trans e2.2⟩
    exact (hs.act (fedA_wf hs.1 c) ⟨rfl, rfl, rfl, Sam.rf _⟩ (ib.fr (F := fun k => k = 80 ∨ k = 84 ∨ k = rn ρ) (fun k hk => by omega) q.2.2) hf q.2.1).nw 5 5
  · rw [if_neg c, if_neg c]
    refine sC_feed0 hs.ok hs.1 hs.ib c ?_
    refine mdI (F := Fmn (rn ρ)) (Q := fun v S2 => (-1) = v ∧ S2 = S) hA (fun k hk => by unfold Fmn at hk; omega) (sM_feed0 hs.ok (Or.inr rfl) hs.1 hs.2.2.2 c ⟨rfl, rfl⟩) (fun v S2 q f => ⟨q.1, by rw [q.2]; exact hs⟩)
theorem two_end {x1 : Int32} (hA : ∀ k, 16 ≤ k → gF g k) : ∃ b', ∀ S, ST b p ρ S → CALLi g (d + 29) mX11_end [.ref 16, .int x1] ρ ρ S (fun v1 S1 => CALLi g (d + 29) mX12_end [.ref 80, .int x1] ρ ρ S1 (fun v2 S2 => v1 = v2 ∧ ST b' p ρ S2)) := by
  by_cases c : vp_in x1 (tL b + 1)
  · refine ⟨endA b x1.toNatClampNeg, fun S hs => ?_⟩
    have hn := vin_cl c
    refine sC_end1 hs.ok (fun k hk => hA k (by simp at hk; omega)) hs.1 hs.ib c (fun S1 ib f1 => ?_)
    have im1 : IM b S1 := hs.2.2.2.cl f1 (fun k hk => by omega)
    refine mdI (F := Fm) (Q := fun v S2 => x1 = v ∧ IM (endA b x1.toNatClampNeg) S2) hA Fm16 (sM_end1 hs.ok (gFm (by intro k hk; simp at hk; omega)) hs.1 im1 c (fun S2 i2 _ => ⟨rfl, i2⟩)) (fun v S2 q f => ⟨q.1, ?_⟩)
    have hf : ∀ k, 26 ≤ k → k ≤ 79 ∨ (95 ≤ k ∧ k < rn ρ) → S2.1 k = S.1 k ∧ S2.2 k = S.2 k := fun k h1 h2 => by
      have e1 := f k (by unfold Fm; omega)
      have e2 := f1 k (by omega)
      exact ⟨e1.1.trans e2.1, e1.2.trans e2.2⟩
    exact hs.act (endA_wf hs.1 (by omega)) ⟨rfl, rfl, rfl, Sam.rf _⟩ (ib.fr (F := Fm) (fun k hk z => by unfold Fm at z; omega) f) hf q.2
  · refine ⟨b, fun S hs => ?_⟩
    refine sC_end0 hs.ok (fun k hk => hA k (by simp at hk; omega)) hs.1 hs.ib c ?_
    exact mdI (F := Fm) (Q := fun v S2 => (-1) = v ∧ IM b S2) hA Fm16 (sM_end0 hs.ok (gFm (by intro k hk; simp at hk; omega)) hs.1 hs.2.2.2 c ⟨rfl, hs.2.2.2⟩) (fun v S2 q f => ⟨q.1, hs.frm f q.2⟩)
theorem two_table (hA : ∀ k, 16 ≤ k → gF g k) : ∃ p', ∀ S, ST b p ρ S → CALLi g (d + 29) mX11_table [.ref 16] ρ ρ S (fun v1 S1 => CALLi g (d + 29) mX12_table [.ref 80] ρ ρ S1 (fun v2 S2 => v1 = v2 ∧ ST (tabA b) p' ρ S2)) := by
  have mod : ∀ {S1 : St} {K : Int32 → St → Prop}, Ok ρ → WF b → IM b S1 → (∀ S2, IM (tabA b) S2 → Fr Fm S1 S2 → K (match parse (tB b) (tL b) with | .inl _ => -4 | .inr r => nI r.1.2.2) S2) → CALLi g (d + 29) mX12_table [.ref 80] ρ ρ S1 K := fun {S1 K} ho hw hi hk => by
    refine mdI (F := Fm) (Q := fun v S2 => v = (match parse (tB b) (tL b) with | .inl _ => -4 | .inr r => nI r.1.2.2) ∧ IM (tabA b) S2) hA Fm16 (sM_tableA ho (gFm (by intro k hk; simp at hk; omega)) hw hi (fun S2 i2 _ => ⟨rfl, i2⟩)) (fun v S2 q f => ?_)
    rw [q.1]
    exact hk S2 q.2 f
  cases he : parse (tB b) (tL b) with
  | inl e =>
    refine ⟨p, fun S hs => ?_⟩
    refine sC_table hs.ok (fun k hk => hA k (by unfold Fcl at hk; omega)) hs.1 hs.ib (fun e' S1 he' ib f1 => ?_) (fun r S1 he' _ _ _ _ _ => ?_)
    · refine mod hs.ok hs.1 (hs.2.2.2.cl f1 (fun k hk => by unfold F20 at hk; omega)) (fun S2 i2 f2 => ?_)
      rw [he]
      refine ⟨rfl, ?_⟩
      have hf : ∀ k, 26 ≤ k → k ≤ 79 ∨ (95 ≤ k ∧ k < rn ρ) → S2.1 k = S.1 k ∧ S2.2 k = S.2 k := fun k h1 h2 => by
        have e1 := f2 k (by unfold Fm; omega)
        have e2 := f1 k (by unfold F20; omega)
        exact ⟨e1.1.trans e2.1, e1.2.trans e2.2⟩
      refine hs.act (tabA_WF hs.1) ?_ (ib.fr (F := Fm) (fun k hk z => by unfold Fm at z; omega) f2) hf i2
      rw [tabA_l he]
      exact ⟨rfl, rfl, rfl, Sam.rf _⟩
    · rw [he] at he'; cases he'
  | inr r =>
    refine ⟨false, fun S hs => ?_⟩
    refine sC_table hs.ok (fun k hk => hA k (by unfold Fcl at hk; omega)) hs.1 hs.ib (fun e' S1 he' _ _ => ?_) (fun r' S1 he' ib v1 z1 z2 f1 => ?_)
    · rw [he] at he'; cases he'
    · refine mod hs.ok hs.1 (hs.2.2.2.cl f1 (fun k hk => by unfold Fcl at hk; omega)) (fun S2 i2 f2 => ?_)
      rw [he]
      refine ⟨by rw [tabA_r he], tabA_WF hs.1, hs.2.1, ?_, i2⟩
      have ik : IK (tabA b) ρ false S1 := by
        refine ⟨ib, z2, fun _ => rfl, fun c => ?_⟩
        obtain ⟨V, q1, q2⟩ := v1 c
        exact ⟨tabA b, V, ⟨tabA_WF hs.1, Smp.rf _, q1, fun w hw => ⟨Or.inl (z1 w hw).1, Or.inl (z1 w hw).2⟩⟩, q2, fun z => absurd z (by decide)⟩
      exact ik.fr hs.2.1 (fun k hk => f2 k (by unfold Fm; omega))
/-- an act of the class and one of the reference -/
theorem actd {b' : AS} {S1 S2 : St} {F : Nat → Prop} (hs : ST b p ρ S) (hW : WF b') (hm : Smp b b') (ib : IB b' S1) (f1 : Fr F S S1) (hF : ∀ k, F k → k ≤ 25) (i2 : IM b' S2) (f2 : Fr Fm S1 S2) : ST b' p ρ S2 := by
  refine hs.act hW hm (ib.fr (F := Fm) (fun k hk z => by unfold Fm at z; omega) f2) (fun k h1 h2 => ?_) i2
  have e1 := f2 k (by unfold Fm; omega)
  have e2 := f1 k (fun z => by have := hF k z; omega)
  exact ⟨e1.1.trans e2.1, e1.2.trans e2.2⟩
theorem back_smp (hW : WF b) (hR : nR b ≠ 0) {k : Nat} (hk : k < nA b) : Smp b (backA b k) := ⟨rfl, rfl, rfl, ((hW.told hR).2.2.2.2.2.2.2.2.2.2 k hk).2⟩
theorem swA_smp {a : AS} {r s c d : Nat} (hW : WF a) (hr : r < nR a) (hs : s < nR a) (hc : c < nC a) (hd : d < nC a) (hrs : r ≠ s) (hcd : c ≠ d) (h : canS a r s c d) : Smp a (swA a r s c d) := by
  have hle := hW.le
  exact ⟨rfl, rfl, rfl, swT_sam (by omega) (by omega) (by omega) (by omega) hrs hcd h.1 h.2.1⟩
theorem Smp.tr {x y z : AS} (h : Smp x y) (k : Smp y z) : Smp x z := ⟨k.1.trans h.1, k.2.1.trans h.2.1, k.2.2.1.trans h.2.2.1, h.2.2.2.tr k.2.2.2⟩
theorem stp_smp {q : AS × Nat × Nat} (hW : WF q.1) (hR : nR q.1 ≠ 0) : Smp q.1 (stp q).1 := by
  obtain ⟨a, n, k⟩ := q
  have hW : WF a := hW
  have hR : nR a ≠ 0 := hR
  have hi := wk_in hW hR n
  by_cases c : canS a (wR a n) (wS a n) (wC a n) (wE a n)
  · rw [stp_1 c]
    exact swA_smp hW hi.1 hi.2.1 hi.2.2.1 hi.2.2.2.1 hi.2.2.2.2.1 hi.2.2.2.2.2 c
  · rw [stp_0 c]
    exact Smp.rf _
theorem wlk_smp : ∀ (m : Nat) (q : AS × Nat × Nat), WF q.1 → nR q.1 ≠ 0 → Smp q.1 (wlk m q).1
  | 0, q, _, _ => Smp.rf _
  | m + 1, q, h, h2 => (stp_smp h h2).tr (wlk_smp m (stp q) (stp_WF h h2).1 (stp_WF h h2).2)
theorem two_undo (hA : ∀ k, 16 ≤ k → gF g k) : ∃ b', ∀ S, ST b p ρ S → CALLi g (d + 29) mX11_undo [.ref 16] ρ ρ S (fun v1 S1 => CALLi g (d + 29) mX12_undo [.ref 80] ρ ρ S1 (fun v2 S2 => v1 = v2 ∧ ST b' p ρ S2)) := by
  by_cases c : nR b ≠ 0 ∧ nA b ≠ 0
  · refine ⟨backA b (nA b - 1), fun S hs => ?_⟩
    refine sC_undo hs.ok (fun k hk => hA k (by simp at hk; omega)) hs.1 hs.ib (fun z => absurd z c.1) (fun _ z => absurd z c.2) (fun _ _ S1 ib f1 => ?_)
    refine mdI (F := Fm) (Q := fun v S2 => nI (nA b - 1) = v ∧ IM (backA b (nA b - 1)) S2) hA Fm16 (sM_undo hs.ok (gFm (by intro k hk; simp at hk; omega)) hs.1 (hs.2.2.2.cl f1 (fun k hk => by omega)) (fun z => absurd z c.1) (fun _ z => absurd z c.2) (fun _ _ S2 i2 _ => ⟨rfl, i2⟩)) (fun v S2 q f => ⟨q.1, ?_⟩)
    exact actd hs (backA_WF hs.1 c.1 (by omega)) (back_smp hs.1 c.1 (by omega)) ib f1 (fun k hk => by omega) q.2 f
  · refine ⟨b, fun S hs => ?_⟩
    have mod : ∀ {K : Int32 → St → Prop} (hk : ∀ v S2, ((nR b = 0 → v = -2) ∧ (nR b ≠ 0 → v = -5)) → ST b p ρ S2 → K v S2), CALLi g (d + 29) mX12_undo [.ref 80] ρ ρ S K := fun hk => mdI (F := Fm) (Q := fun v S2 => ((nR b = 0 → v = -2) ∧ (nR b ≠ 0 → v = -5)) ∧ IM b S2) hA Fm16 (sM_undo hs.ok (gFm (by intro k hk; simp at hk; omega)) hs.1 hs.2.2.2 (fun z => ⟨⟨fun _ => rfl, fun q => absurd z q⟩, hs.2.2.2⟩) (fun z _ => ⟨⟨fun q => absurd q z, fun _ => rfl⟩, hs.2.2.2⟩) (fun z1 z2 => absurd ⟨z1, z2⟩ c)) (fun v S2 q f => hk v S2 q.1 (hs.frm f q.2))
    refine sC_undo hs.ok (fun k hk => hA k (by simp at hk; omega)) hs.1 hs.ib (fun z => mod (fun v S2 q st => ⟨(q.1 z).symm, st⟩)) (fun z _ => mod (fun v S2 q st => ⟨(q.2 z).symm, st⟩)) (fun z1 z2 => absurd ⟨z1, z2⟩ c)
theorem two_anew (hA : ∀ k, 16 ≤ k → gF g k) : ∃ b', ∀ S, ST b p ρ S → CALLi g (d + 29) mX11_anew [.ref 16] ρ ρ S (fun v1 S1 => CALLi g (d + 29) mX12_anew [.ref 80] ρ ρ S1 (fun v2 S2 => v1 = v2 ∧ ST b' p ρ S2)) := by
  by_cases c : nR b ≠ 0 ∧ nA b ≠ 0
  · refine ⟨backA b 0, fun S hs => ?_⟩
    refine sC_anew hs.ok (fun k hk => hA k (by simp at hk; omega)) hs.1 hs.ib (fun z => absurd z c.1) (fun _ z => absurd z c.2) (fun _ _ S1 ib f1 => ?_)
    refine mdI (F := Fm) (Q := fun v S2 => nI (nA b) = v ∧ IM (backA b 0) S2) hA Fm16 (sM_anew hs.ok (gFm (by intro k hk; simp at hk; omega)) hs.1 (hs.2.2.2.cl f1 (fun k hk => by omega)) (fun z => absurd z c.1) (fun _ z => absurd z c.2) (fun _ _ S2 i2 _ => ⟨rfl, i2⟩)) (fun v S2 q f => ⟨q.1, ?_⟩)
    exact actd hs (backA_WF hs.1 c.1 (by omega)) (back_smp hs.1 c.1 (by omega)) ib f1 (fun k hk => by omega) q.2 f
  · refine ⟨b, fun S hs => ?_⟩
    have mod : ∀ {K : Int32 → St → Prop} (hk : ∀ v S2, ((nR b = 0 → v = -2) ∧ (nR b ≠ 0 → v = 0)) → ST b p ρ S2 → K v S2), CALLi g (d + 29) mX12_anew [.ref 80] ρ ρ S K := fun hk => mdI (F := Fm) (Q := fun v S2 => ((nR b = 0 → v = -2) ∧ (nR b ≠ 0 → v = 0)) ∧ IM b S2) hA Fm16 (sM_anew hs.ok (gFm (by intro k hk; simp at hk; omega)) hs.1 hs.2.2.2 (fun z => ⟨⟨fun _ => rfl, fun q => absurd z q⟩, hs.2.2.2⟩) (fun z _ => ⟨⟨fun q => absurd q z, fun _ => rfl⟩, hs.2.2.2⟩) (fun z1 z2 => absurd ⟨z1, z2⟩ c)) (fun v S2 q f => hk v S2 q.1 (hs.frm f q.2))
    refine sC_anew hs.ok (fun k hk => hA k (by simp at hk; omega)) hs.1 hs.ib (fun z => mod (fun v S2 q st => ⟨(q.1 z).symm, st⟩)) (fun z _ => mod (fun v S2 q st => ⟨(q.2 z).symm, st⟩)) (fun z1 z2 => absurd ⟨z1, z2⟩ c)
theorem two_swap {x1 x2 x3 x4 : Int32} (hA : ∀ k, 16 ≤ k → gF g k) : ∃ b', ∀ S, ST b p ρ S → CALLi g (d + 29) mX11_swap [.ref 16, .int x1, .int x2, .int x3, .int x4] ρ ρ S (fun v1 S1 => CALLi g (d + 29) mX12_swap [.ref 80, .int x1, .int x2, .int x3, .int x4] ρ ρ S1 (fun v2 S2 => v1 = v2 ∧ ST b' p ρ S2)) := by
  by_cases c1 : swG b x1 x2 x3 x4
  rotate_left
  · refine ⟨b, fun S hs => ?_⟩
    refine sC_swap hs.ok (fun k hk => hA k (by simp at hk; omega)) hs.1 hs.ib (fun _ => ?_) (fun z => absurd z c1) (fun z => absurd z c1)
    exact mdI (F := Fm) (Q := fun v S2 => (-2) = v ∧ IM b S2) hA Fm16 (sM_swap hs.ok (gFm (by intro k hk; simp at hk; omega)) hs.1 hs.2.2.2 (fun _ => ⟨rfl, hs.2.2.2⟩) (fun z => absurd z c1) (fun z => absurd z c1)) (fun v S2 q f => ⟨q.1, hs.frm f q.2⟩)
  by_cases c2 : nA b = 20 ∨ ¬ canS b x1.toNatClampNeg x2.toNatClampNeg x3.toNatClampNeg x4.toNatClampNeg
  · refine ⟨b, fun S hs => ?_⟩
    have no : ∀ {P : Prop}, nA b ≠ 20 → canS b x1.toNatClampNeg x2.toNatClampNeg x3.toNatClampNeg x4.toNatClampNeg → P := fun z1 z2 => by
      rcases c2 with q | q
      · exact absurd q z1
      · exact absurd z2 q
    refine sC_swap hs.ok (fun k hk => hA k (by simp at hk; omega)) hs.1 hs.ib (fun z => absurd c1 z) (fun _ _ => ?_) (fun _ z1 z2 => no z1 z2)
    exact mdI (F := Fm) (Q := fun v S2 => (-5) = v ∧ IM b S2) hA Fm16 (sM_swap hs.ok (gFm (by intro k hk; simp at hk; omega)) hs.1 hs.2.2.2 (fun z => absurd c1 z) (fun _ _ => ⟨rfl, hs.2.2.2⟩) (fun _ z1 z2 => no z1 z2)) (fun v S2 q f => ⟨q.1, hs.frm f q.2⟩)
  · have c3 : nA b ≠ 20 := fun z => c2 (Or.inl z)
    have c4 : canS b x1.toNatClampNeg x2.toNatClampNeg x3.toNatClampNeg x4.toNatClampNeg := Classical.not_not.mp (fun z => c2 (Or.inr z))
    refine ⟨swA (keepA b) x1.toNatClampNeg x2.toNatClampNeg x3.toNatClampNeg x4.toNatClampNeg, fun S hs => ?_⟩
    refine sC_swap hs.ok (fun k hk => hA k (by simp at hk; omega)) hs.1 hs.ib (fun z => absurd c1 z) (fun _ z => absurd z c2) (fun _ _ _ S1 ib f1 => ?_)
    refine mdI (F := Fm) (Q := fun v S2 => 0 = v ∧ IM (swA (keepA b) x1.toNatClampNeg x2.toNatClampNeg x3.toNatClampNeg x4.toNatClampNeg) S2) hA Fm16 (sM_swap hs.ok (gFm (by intro k hk; simp at hk; omega)) hs.1 (hs.2.2.2.cl f1 (fun k hk => by omega)) (fun z => absurd c1 z) (fun _ z => absurd z c2) (fun _ _ _ S2 i2 _ => ⟨rfl, i2⟩)) (fun v S2 q f => ⟨q.1, ?_⟩)
    have hle := hs.1.le
    obtain ⟨⟨g1, g2⟩, ⟨g3, g4⟩, g5, g6⟩ := c1
    have hR := vin_R g1
    have hk := keepA_WF hs.1 hR (by omega)
    have n1 : x1.toNatClampNeg ≠ x2.toNatClampNeg := fun z => g5 (by rw [vin_eq g1 (by omega), vin_eq g3 (by omega), z])
    have n2 : x3.toNatClampNeg ≠ x4.toNatClampNeg := fun z => g6 (by rw [vin_eq g2 (by omega), vin_eq g4 (by omega), z])
    have v1 := vin_cl g1
    have v2 := vin_cl g2
    have v3 := vin_cl g3
    have v4 := vin_cl g4
    have hsm : Smp b (keepA b) := ⟨rfl, rfl, rfl, Sam.rf _⟩
    exact actd hs (swA_WF hk hR v1 v3 v2 v4 n1 n2 c4) (hsm.tr (swA_smp hk v1 v3 v2 v4 n1 n2 c4)) ib f1 (fun k hk => by omega) q.2 f
theorem two_walk {x1 x2 : Int32} (hA : ∀ k, 16 ≤ k → gF g k) : ∃ b', ∀ S, ST b p ρ S → CALLi g (d + 29) mX11_walk [.ref 16, .int x1, .int x2] ρ ρ S (fun v1 S1 => CALLi g (d + 29) mX12_walk [.ref 80, .int x1, .int x2] ρ ρ S1 (fun v2 S2 => v1 = v2 ∧ ST b' p ρ S2)) := by
  by_cases c1 : wkG b x1 x2
  rotate_left
  · refine ⟨b, fun S hs => ?_⟩
    refine sC_walk hs.ok (fun k hk => hA k (by simp at hk; omega)) hs.1 hs.ib (fun _ => ?_) (fun z => absurd z c1) (fun _ _ z => absurd z c1)
    exact mdI (F := Fm) (Q := fun v S2 => (-2) = v ∧ IM b S2) hA Fm16 (sM_walk hs.ok (gFm (by intro k hk; simp at hk; omega)) hs.1 hs.2.2.2 (fun _ => ⟨rfl, hs.2.2.2⟩) (fun z => absurd z c1) (fun _ _ z => absurd z c1)) (fun v S2 q f => ⟨q.1, hs.frm f q.2⟩)
  by_cases c2 : nA b = 20
  · refine ⟨b, fun S hs => ?_⟩
    refine sC_walk hs.ok (fun k hk => hA k (by simp at hk; omega)) hs.1 hs.ib (fun z => absurd c1 z) (fun _ _ => ?_) (fun _ _ _ z => absurd c2 z)
    exact mdI (F := Fm) (Q := fun v S2 => (-5) = v ∧ IM b S2) hA Fm16 (sM_walk hs.ok (gFm (by intro k hk; simp at hk; omega)) hs.1 hs.2.2.2 (fun z => absurd c1 z) (fun _ _ => ⟨rfl, hs.2.2.2⟩) (fun _ _ _ z => absurd c2 z)) (fun v S2 q f => ⟨q.1, hs.frm f q.2⟩)
  · refine ⟨(wlk x1.toNatClampNeg (keepA b, x2.toNatClampNeg, 0)).1, fun S hs => ?_⟩
    have hle := hs.1.le
    refine sC_walk hs.ok (fun k hk => hA k (by simp at hk; omega)) hs.1 hs.ib (fun z => absurd c1 z) (fun _ z => absurd z c2) (fun m n _ _ em en hm hn S1 ib f1 => ?_)
    have e1 : x1.toNatClampNeg = m := by rw [em, nI_clamp hm]
    have e2 : x2.toNatClampNeg = n := by rw [en, nI_clamp hn]
    rw [e1, e2]
    refine mdI (F := Fm) (Q := fun v S2 => nI (wlk m (keepA b, n, 0)).2.2 = v ∧ IM (wlk m (keepA b, n, 0)).1 S2) hA Fm16 (sM_walk hs.ok (gFm (by intro k hk; simp at hk; omega)) hs.1 (hs.2.2.2.cl f1 (fun k hk => by omega)) (fun z => absurd c1 z) (fun _ z => absurd z c2) (fun m' n' _ _ em' en' hm' hn' S2 i2 _ => ?_)) (fun v S2 q f => ⟨q.1, ?_⟩)
    · have q1 : m' = m := (nI_eq hm' hm).mp (em'.symm.trans em)
      have q2 : n' = n := (nI_eq hn' hn).mp (en'.symm.trans en)
      rw [q1, q2] at i2
      rw [q1, q2]
      exact ⟨rfl, i2⟩
    · have hk := keepA_WF hs.1 c1.1 (by omega)
      have hsm : Smp b (keepA b) := ⟨rfl, rfl, rfl, Sam.rf _⟩
      have hw := wlk_WF m (keepA b, n, 0) hk c1.1
      exact actd hs hw.1 (hsm.tr (wlk_smp m (keepA b, n, 0) hk c1.1)) ib f1 (fun k hk => by omega) q.2 f
theorem two_classes (hA : ∀ k, 16 ≤ k → gF g k) (hs : ST b p ρ S) : CALLi g (d + 29) mX11_classes [.ref 16] ρ (prQ b p ρ) S (fun v1 S1 => CALLi g (d + 29) mX12_classes [.ref 80] (prQ b p ρ) (prQ b p ρ) S1 (fun v2 S2 => v1 = v2 ∧ ST b (prP b p) (prQ b p ρ) S2)) := by
  refine sC_classes hA hs.2.1 hs.1 hs.2.2.1 rfl (fun S1 ik fr => ?_)
  have hs := hs.net hs.2.1.pr ik fr
  generalize ev : clV b false = v0
  exact mdI (F := Fm) (Q := fun v S2 => v0 = v ∧ IM b S2) hA Fm16 (sM_classes hs.ok (gFm (by intro k hk; simp at hk; omega)) hs.1 hs.2.2.2 (fun S2 i2 => ⟨ev.symm, i2⟩)) (fun v S2 q f => ⟨q.1, hs.frm f q.2⟩)
theorem two_joined (hA : ∀ k, 16 ≤ k → gF g k) (hs : ST b p ρ S) : CALLi g (d + 29) mX11_joined [.ref 16] ρ (prQ b p ρ) S (fun v1 S1 => CALLi g (d + 29) mX12_joined [.ref 80] (prQ b p ρ) (prQ b p ρ) S1 (fun v2 S2 => v1 = v2 ∧ ST b (prP b p) (prQ b p ρ) S2)) := by
  refine sC_joined hA hs.2.1 hs.1 hs.2.2.1 rfl (fun S1 ik fr => ?_)
  have hs := hs.net hs.2.1.pr ik fr
  generalize ev : clV b true = v0
  exact mdI (F := Fm) (Q := fun v S2 => v0 = v ∧ IM b S2) hA Fm16 (sM_joined hs.ok (gFm (by intro k hk; simp at hk; omega)) hs.1 hs.2.2.2 (fun S2 i2 => ⟨ev.symm, i2⟩)) (fun v S2 q f => ⟨q.1, hs.frm f q.2⟩)
theorem two_classOf {x : Int32} (hA : ∀ k, 16 ≤ k → gF g k) (hs : ST b p ρ S) : CALLi g (d + 29) mX11_classOf [.ref 16, .int x] ρ (prQ b p ρ) S (fun v1 S1 => CALLi g (d + 29) mX12_classOf [.ref 80, .int x] (prQ b p ρ) (prQ b p ρ) S1 (fun v2 S2 => v1 = v2 ∧ ST b (prP b p) (prQ b p ρ) S2)) := by
  refine sC_classOf hA hs.2.1 hs.1 hs.2.2.1 rfl (fun v1 S1 r1 ik fr => ?_)
  have hs := hs.net hs.2.1.pr ik fr
  exact mdI (F := Fm) (Q := fun v S2 => v1 = v ∧ IM b S2) hA Fm16 (sM_classOf hs.ok (gFm (by intro k hk; simp at hk; omega)) hs.1 hs.2.2.2 (fun v S2 r2 i2 => ⟨RfR.un (C := cofC b) (fun i v w _ _ h k => cofC_un h k) r1 r2, i2⟩)) (fun v S2 q f => ⟨q.1, hs.frm f q.2⟩)
theorem two_sized {x : Int32} (hA : ∀ k, 16 ≤ k → gF g k) (hs : ST b p ρ S) : CALLi g (d + 29) mX11_sized [.ref 16, .int x] ρ (prQ b p ρ) S (fun v1 S1 => CALLi g (d + 29) mX12_sized [.ref 80, .int x] (prQ b p ρ) (prQ b p ρ) S1 (fun v2 S2 => v1 = v2 ∧ ST b (prP b p) (prQ b p ρ) S2)) := by
  refine sC_sized hA hs.2.1 hs.1 hs.2.2.1 rfl (fun v1 S1 r1 ik fr => ?_)
  have hs := hs.net hs.2.1.pr ik fr
  exact mdI (F := Fm) (Q := fun v S2 => v1 = v ∧ IM b S2) hA Fm16 (sM_sized hs.ok (gFm (by intro k hk; simp at hk; omega)) hs.1 hs.2.2.2 (fun v S2 r2 i2 => ⟨RfR.un (C := sizC b) (fun i v w _ _ h k => sizC_un h k) r1 r2, i2⟩)) (fun v S2 q f => ⟨q.1, hs.frm f q.2⟩)
theorem two_apart {x y : Int32} (hA : ∀ k, 16 ≤ k → gF g k) (hs : ST b p ρ S) : CALLi g (d + 29) mX11_apart [.ref 16, .int x, .int y] ρ (prQ b p ρ) S (fun v1 S1 => CALLi g (d + 29) mX12_apart [.ref 80, .int x, .int y] (prQ b p ρ) (prQ b p ρ) S1 (fun v2 S2 => v1 = v2 ∧ ST b (prP b p) (prQ b p ρ) S2)) := by
  refine sC_apart hA hs.2.1 hs.1 hs.2.2.1 rfl (fun v1 S1 r1 ik fr => ?_)
  have hs := hs.net hs.2.1.pr ik fr
  exact mdI (F := Fm) (Q := fun v S2 => v1 = v ∧ IM b S2) hA Fm16 (sM_apart hs.ok (gFm (by intro k hk; simp at hk; omega)) hs.1 hs.2.2.2 (fun v S2 r2 i2 => ⟨RfR.un (C := aptC b y) (fun i v w _ hn h k => aptC_un hn h k) r1 r2, i2⟩)) (fun v S2 q f => ⟨q.1, hs.frm f q.2⟩)
theorem two_far (hA : ∀ k, 16 ≤ k → gF g k) (hs : ST b p ρ S) : CALLi g (d + 29) mX11_far [.ref 16] ρ (prQ b p ρ) S (fun v1 S1 => CALLi g (d + 29) mX12_far [.ref 80] (prQ b p ρ) (prQ b p ρ) S1 (fun v2 S2 => v1 = v2 ∧ ST b (prP b p) (prQ b p ρ) S2)) := by
  refine sC_far hA hs.2.1 hs.1 hs.2.2.1 rfl (fun v1 S1 r1 ik fr => ?_)
  have hs := hs.net hs.2.1.pr ik fr
  exact mdI (F := Fm) (Q := fun v S2 => v1 = v ∧ IM b S2) hA Fm16 (sM_far hs.ok (gFm (by intro k hk; simp at hk; omega)) hs.1 hs.2.2.2 (fun v S2 r2 i2 => ⟨RfN.un (fun _ _ v w h k => farC_un h k) r1 r2, i2⟩)) (fun v S2 q f => ⟨q.1, hs.frm f q.2⟩)
theorem two_farthest (hA : ∀ k, 16 ≤ k → gF g k) (hs : ST b p ρ S) : CALLi g (d + 29) mX11_farthest [.ref 16] ρ (prQ b p ρ) S (fun v1 S1 => CALLi g (d + 29) mX12_farthest [.ref 80] (prQ b p ρ) (prQ b p ρ) S1 (fun v2 S2 => v1 = v2 ∧ ST b (prP b p) (prQ b p ρ) S2)) := by
  refine sC_farthest hA hs.2.1 hs.1 hs.2.2.1 rfl (fun v1 S1 r1 ik fr => ?_)
  have hs := hs.net hs.2.1.pr ik fr
  exact mdI (F := Fm) (Q := fun v S2 => v1 = v ∧ IM b S2) hA Fm16 (sM_farthest hs.ok (gFm (by intro k hk; simp at hk; omega)) hs.1 hs.2.2.2 (fun v S2 r2 i2 => ⟨RfN.un (fun _ _ v w h k => fthC_un h k) r1 r2, i2⟩)) (fun v S2 q f => ⟨q.1, hs.frm f q.2⟩)
theorem NR.wit {x : Int32} (h : NR ρ) : NR (witQ b p x ρ) := by
  unfold witQ
  split
  · exact h.pr
  · exact h
theorem NR.way {x y : Int32} (h : NR ρ) : NR (wayQ b p x y ρ) := by
  unfold wayQ
  split
  · split
    · exact NR.swk _ h.pr
    · exact h.pr
  · exact h
theorem witR_un {x v w : Int32} (h : witR b x v) (k : witR b x w) : v = w := by
  rcases h with ⟨h1, h2⟩ | ⟨h1, h2⟩ <;> rcases k with ⟨k1, k2⟩ | ⟨k1, k2⟩
  · rw [h2, k2]
  · exact absurd k1 h1
  · exact absurd h1 k1
  · exact RfN.un (fun _ _ v w h k => witC_un h k) h2 k2
theorem two_within {x : Int32} (hA : ∀ k, 16 ≤ k → gF g k) (hs : ST b p ρ S) : CALLi g (d + 29) mX11_within [.ref 16, .int x] ρ (witQ b p x ρ) S (fun v1 S1 => CALLi g (d + 29) mX12_within [.ref 80, .int x] (witQ b p x ρ) (witQ b p x ρ) S1 (fun v2 S2 => v1 = v2 ∧ ST b (witP b p x) (witQ b p x ρ) S2)) := by
  refine sC_within hA hs.2.1 hs.1 hs.2.2.1 rfl (fun v1 S1 r1 ik fr => ?_)
  have hs := hs.net hs.2.1.wit ik fr
  exact mdI (F := Fm) (Q := fun v S2 => v1 = v ∧ IM b S2) hA Fm16 (sM_within hs.ok (gFm (by intro k hk; simp at hk; omega)) hs.1 hs.2.2.2 (fun v S2 r2 i2 => ⟨witR_un r1 r2, i2⟩)) (fun v S2 q f => ⟨q.1, hs.frm f q.2⟩)
theorem two_ways {x y : Int32} (hA : ∀ k, 16 ≤ k → gF g k) (hs : ST b p ρ S) : CALLl g (d + 29) mX11_ways [.ref 16, .int x, .int y] ρ (wayQ b p x y ρ) S (fun v1 S1 => CALLl g (d + 29) mX12_ways [.ref 80, .int x, .int y] (wayQ b p x y ρ) (wayQ b p x y ρ) S1 (fun v2 S2 => v1 = v2 ∧ ST b (wayP b p x) (wayQ b p x y ρ) S2)) := by
  refine sC_ways hA hs.2.1 hs.1 hs.2.2.1 rfl (fun v1 S1 r1 ik fr => ?_)
  have hs := hs.net hs.2.1.way ik fr
  exact mdL (F := Fm) (Q := fun v S2 => v1 = v ∧ IM b S2) hA Fm16 (sM_ways hs.ok (gFm (by intro k hk; simp at hk; omega)) hs.1 hs.2.2.2 (fun v S2 r2 i2 => ⟨wayR_un r1 r2, i2⟩)) (fun v S2 q f => ⟨q.1, hs.frm f q.2⟩)
end PB
