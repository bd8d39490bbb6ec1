def inB (x : Int32) (n : Nat) : Bool := decide (0 ≤ x.toInt ∧ x.toInt < n)
theorem inB_iff {x : Int32} {n : Nat} : inB x n = true ↔ vp_in x n := by
  unfold inB
  rw [decide_eq_true_eq, vp_in_iff]
def witQ (b : AS) (p : Bool) (x : Int32) (ρ : Rs) : Rs := if inB x 41 = true then prQ b p ρ else ρ
def witP (b : AS) (p : Bool) (x : Int32) : Bool := if inB x 41 = true then prP b p else p
theorem wit_y {b : AS} {p : Bool} {x : Int32} {ρ : Rs} (h : vp_in x 41) : witQ b p x ρ = prQ b p ρ ∧ witP b p x = prP b p := ⟨if_pos (inB_iff.mpr h), if_pos (inB_iff.mpr h)⟩
theorem wit_n {b : AS} {p : Bool} {x : Int32} {ρ : Rs} (h : ¬ vp_in x 41) : witQ b p x ρ = ρ ∧ witP b p x = p := ⟨if_neg (fun z => h (inB_iff.mp z)), if_neg (fun z => h (inB_iff.mp z))⟩
/-- a row of choices is asked for: is there an answer -/
def wayB (b : AS) (y : Int32) : Bool := decide (nR b ≠ 0) && (decide ((KK b).length ≤ 1000) && inB y (KK b).length)
def wayQ (b : AS) (p : Bool) (x y : Int32) (ρ : Rs) : Rs := if inB x 5 = true then (if wayB b y = true then swk x.toNatClampNeg (prQ b p ρ) else prQ b p ρ) else ρ
def wayP (b : AS) (p : Bool) (x : Int32) : Bool := if inB x 5 = true then prP b p else p
theorem wayB_iff {b : AS} {y : Int32} : wayB b y = true ↔ nR b ≠ 0 ∧ (KK b).length ≤ 1000 ∧ vp_in y (KK b).length := by
  unfold wayB
  rw [Bool.and_eq_true, Bool.and_eq_true, decide_eq_true_eq, decide_eq_true_eq, inB_iff]
section CB
variable {g : GX} {d : Nat} {ρ : Rs} {S : St} {b : AS} {p : Bool}
theorem clV_0 {w : Bool} (h : nR b = 0) : clV b w = -2 := by unfold clV; rw [if_pos h]
theorem clV_3 {w : Bool} (h : nR b ≠ 0) (k : 1000 < (KK b).length) : clV b w = -3 := by unfold clV; rw [if_neg h, if_pos k]
theorem clV_1 {w : Bool} (h : nR b ≠ 0) (k : (KK b).length ≤ 1000) : clV b w = nI (cntC (adjW b w) (KK b).length) := by unfold clV; rw [if_neg h, if_neg (by omega)]
theorem sC_classes {Q : Int32 → St → Prop} {ρ' : Rs} (hA : ∀ k, 16 ≤ k → gF g k) (hN : NR ρ) (hW : WF b) (hI : IK b ρ p S) (hρ' : prQ b p ρ = ρ') (h : ∀ S', IK b ρ' (prP b p) S' → Fr FNt S S' → Q (clV b false) S') : CALLi g (d + 9) mX11_classes [.ref 16] ρ ρ' S Q := by
  have hrc := prQ_rc b p ρ
  have nr' : NR (prQ b p ρ) := hN.pr
  rw [hρ'] at hrc nr'
  refine eX11_classes hN.1 (ρ1 := ρ') nr'.1 (Nat.le_refl _) (Nat.le_refl _) hrc.1 hrc.2 (sC_list hA hN hW hI hρ' (fun c e i => ?_) (fun c1 c2 e i => ?_) (fun c1 c2 e S1 a f1 f2 ⟨V, f3⟩ k2 i1 ik fr => ?_))
  · have := h S (by rw [e]; exact i) (Fr.rf S)
    rw [clV_0 c] at this
    rw [if_neg (by decide)]
    exact ⟨rfl, this⟩
  · have := h S (by rw [e]; exact i) (Fr.rf S)
    rw [clV_3 c1 c2] at this
    rw [if_neg (by decide)]
    exact ⟨rfl, this⟩
  · rw [if_pos rfl]
    refine eX6_classTotal nr'.1 ⟨rfl, ?_⟩
    have := h S1 (by rw [e]; exact ik) fr
    rw [clV_1 c1 c2] at this
    rw [i1.2.2.1, ← KK_smp f2, ← adjS_smp f2]
    exact this
theorem sC_joined {Q : Int32 → St → Prop} {ρ' : Rs} (hA : ∀ k, 16 ≤ k → gF g k) (hN : NR ρ) (hW : WF b) (hI : IK b ρ p S) (hρ' : prQ b p ρ = ρ') (h : ∀ S', IK b ρ' (prP b p) S' → Fr FNt S S' → Q (clV b true) S') : CALLi g (d + 9) mX11_joined [.ref 16] ρ ρ' S Q := by
  have hrc := prQ_rc b p ρ
  have nr' : NR (prQ b p ρ) := hN.pr
  rw [hρ'] at hrc nr'
  refine eX11_joined hN.1 (ρ1 := ρ') nr'.1 (Nat.le_refl _) (Nat.le_refl _) hrc.1 hrc.2 (sC_list hA hN hW hI hρ' (fun c e i => ?_) (fun c1 c2 e i => ?_) (fun c1 c2 e S1 a f1 f2 ⟨V, f3⟩ k2 i1 ik fr => ?_))
  · have := h S (by rw [e]; exact i) (Fr.rf S)
    rw [clV_0 c] at this
    rw [if_neg (by decide)]
    exact ⟨rfl, this⟩
  · have := h S (by rw [e]; exact i) (Fr.rf S)
    rw [clV_3 c1 c2] at this
    rw [if_neg (by decide)]
    exact ⟨rfl, this⟩
  · rw [if_pos rfl]
    have hRa : nR a ≠ 0 := by rw [← f2.1]; exact c1
    refine sC_joinedTotal hA nr' f1 hRa (by rw [← KK_smp f2]; exact c2) i1 k2 (fun S2 i2 e2 fr2 => ⟨rfl, ?_⟩)
    have := h S2 (by rw [e]; exact ik.net c1 f2 c2 i2 e2 fr2) (fr.tr fr2)
    rw [clV_1 c1 c2] at this
    rw [← KK_smp f2, ← adjT_smp f2]
    exact this
theorem sC_classOf {Q : Int32 → St → Prop} {ρ' : Rs} {x : Int32} (hA : ∀ k, 16 ≤ k → gF g k) (hN : NR ρ) (hW : WF b) (hI : IK b ρ p S) (hρ' : prQ b p ρ = ρ') (h : ∀ v S', RfR b x (cofC b) v → IK b ρ' (prP b p) S' → Fr FNt S S' → Q v S') : CALLi g (d + 10) mX11_classOf [.ref 16, .int x] ρ ρ' S Q := by
  have hrc := prQ_rc b p ρ
  have nr' : NR (prQ b p ρ) := hN.pr
  rw [hρ'] at hrc nr'
  refine eX11_classOf hN.1 (ρ1 := ρ') nr'.1 (Nat.le_refl _) (Nat.le_refl _) hrc.1 hrc.2 (sC_rankQ hA hN hW hI hρ' (fun z S' i fr => ?_) (fun z1 z2 i => ?_) (fun c1 c2 e i S1 a hi ei f1 f2 ⟨V, f3⟩ k2 i1 ik fr => ?_))
  · rw [if_neg (by decide)]
    refine ⟨rfl, h _ S' ?_ i fr⟩
    rcases z with z | z
    · exact Or.inl ⟨z, rfl⟩
    · exact Or.inr (Or.inr (Or.inl ⟨z.1, z.2.1, z.2.2, rfl⟩))
  · rw [if_neg (by decide)]
    exact ⟨rfl, h _ S (Or.inr (Or.inl ⟨z1, z2, rfl⟩)) i (Fr.rf S)⟩
  · rw [if_pos rfl, ei]
    have hRa : nR a ≠ 0 := by rw [← f2.1]; exact c1
    refine sC_headOf nr' (by rw [← KK_smp f2]; exact c2) i1 (by rw [← KK_smp f2]; exact hi) (fun j hj hd _ => ⟨rfl, ?_⟩)
    refine h _ S1 (Or.inr (Or.inr (Or.inr ⟨c1, c2, i, hi, ei, j, by rw [KK_smp f2]; exact hj, ?_, fun k hk z => ?_, rfl⟩))) (by rw [e]; exact ik) fr
    · rw [adjS_smp f2]; exact rch_sy f1 hRa hd.1
    · rw [adjS_smp f2] at z; exact hd.2 k hk (rch_sy f1 hRa z)
theorem sC_sized {Q : Int32 → St → Prop} {ρ' : Rs} {x : Int32} (hA : ∀ k, 16 ≤ k → gF g k) (hN : NR ρ) (hW : WF b) (hI : IK b ρ p S) (hρ' : prQ b p ρ = ρ') (h : ∀ v S', RfR b x (sizC b) v → IK b ρ' (prP b p) S' → Fr FNt S S' → Q v S') : CALLi g (d + 10) mX11_sized [.ref 16, .int x] ρ ρ' S Q := by
  have hrc := prQ_rc b p ρ
  have nr' : NR (prQ b p ρ) := hN.pr
  rw [hρ'] at hrc nr'
  refine eX11_sized hN.1 (ρ1 := ρ') nr'.1 (Nat.le_refl _) (Nat.le_refl _) hrc.1 hrc.2 (sC_rankQ hA hN hW hI hρ' (fun z S' i fr => ?_) (fun z1 z2 i => ?_) (fun c1 c2 e i S1 a hi ei f1 f2 ⟨V, f3⟩ k2 i1 ik fr => ?_))
  · rw [if_neg (by decide)]
    refine ⟨rfl, h _ S' ?_ i fr⟩
    rcases z with z | z
    · exact Or.inl ⟨z, rfl⟩
    · exact Or.inr (Or.inr (Or.inl ⟨z.1, z.2.1, z.2.2, rfl⟩))
  · rw [if_neg (by decide)]
    exact ⟨rfl, h _ S (Or.inr (Or.inl ⟨z1, z2, rfl⟩)) i (Fr.rf S)⟩
  · rw [if_pos rfl, ei]
    have hRa : nR a ≠ 0 := by rw [← f2.1]; exact c1
    refine sC_classSize nr' f1 hRa (by rw [← KK_smp f2]; exact c2) i1 (by rw [← KK_smp f2]; exact hi) (fun q hq => ⟨rfl, ?_⟩)
    exact h _ S1 (Or.inr (Or.inr (Or.inr ⟨c1, c2, i, hi, ei, q, by rw [adjS_smp f2]; exact hq, rfl⟩))) (by rw [e]; exact ik) fr
theorem prQ_2 {ρ' : Rs} (h : nR b ≠ 0) (k : (KK b).length ≤ 1000) : prQ b true ρ' = ρ' := by unfold prQ; rw [if_neg h, if_neg (by omega), if_pos rfl]
theorem prP_2 (h : nR b ≠ 0) (k : (KK b).length ≤ 1000) : prP b true = true := by unfold prP; rw [if_neg h, if_neg (by omega)]
theorem sC_apart {Q : Int32 → St → Prop} {ρ' : Rs} {x y : Int32} (hA : ∀ k, 16 ≤ k → gF g k) (hN : NR ρ) (hW : WF b) (hI : IK b ρ p S) (hρ' : prQ b p ρ = ρ') (h : ∀ v S', RfR b x (aptC b y) v → IK b ρ' (prP b p) S' → Fr FNt S S' → Q v S') : CALLi g (d + 10) mX11_apart [.ref 16, .int x, .int y] ρ ρ' S Q := by
  have hrc := prQ_rc b p ρ
  have nr' : NR (prQ b p ρ) := hN.pr
  rw [hρ'] at hrc nr'
  refine eX11_apart hN.1 (ρ1 := ρ') nr'.1 (Nat.le_refl _) (Nat.le_refl _) (ρ2 := ρ') nr'.1 (Nat.le_refl _) (Nat.le_refl _) hrc.1 hrc.2 (sC_rankQ hA hN hW hI hρ' (fun z S' i fr => ?_) (fun z1 z2 i => ?_) (fun c1 c2 e i S1 a hi ei f1 f2 ⟨V, f3⟩ k2 i1 ik fr => ?_))
  · rw [if_neg (by decide), if_neg (by decide)]
    refine ⟨rfl, h _ S' ?_ i fr⟩
    rcases z with z | z
    · exact Or.inl ⟨z, rfl⟩
    · exact Or.inr (Or.inr (Or.inl ⟨z.1, z.2.1, z.2.2, rfl⟩))
  · rw [if_neg (by decide), if_neg (by decide)]
    exact ⟨rfl, h _ S (Or.inr (Or.inl ⟨z1, z2, rfl⟩)) i (Fr.rf S)⟩
  · rw [if_pos rfl]
    refine sC_rankQ (p := true) hA nr' hW ik (prQ_2 c1 c2) (fun z S2 i2 fr2 => ?_) (fun _ z2 _ => absurd z2 (by omega)) (fun _ _ _ j S2 a' hj ej f1' f2' ⟨V', f3'⟩ k2' i2 ik2 fr2 => ?_)
    · rw [if_neg (by decide)]
      rcases z with z | z
      · exact absurd z c1
      · rw [prP_2 c1 c2] at i2
        exact ⟨rfl, h _ S2 (Or.inr (Or.inr (Or.inr ⟨c1, c2, i, hi, ei, Or.inl ⟨z.2.2, rfl⟩⟩))) (by rw [e]; exact i2) (fr.tr fr2)⟩
    · rw [if_pos rfl, ei, ej]
      have hRa : nR a' ≠ 0 := by rw [← f2'.1]; exact c1
      refine sC_distance hA nr' f1' hRa (by rw [← KK_smp f2']; exact c2) i2 (by rw [← KK_smp f2']; exact hi) (by rw [← KK_smp f2']; exact hj) (fun v S3 hv i3 e3 fr3 => ⟨rfl, ?_⟩)
      refine h v S3 (Or.inr (Or.inr (Or.inr ⟨c1, c2, i, hi, ei, Or.inr ⟨j, hj, ej, ?_⟩⟩))) (by rw [e]; exact ik2.net c1 f2' c2 i3 e3 fr3) ((fr.tr fr2).tr fr3)
      rw [KK_smp f2', adjS_smp f2']
      exact hv
theorem sC_far {Q : Int32 → St → Prop} {ρ' : Rs} (hA : ∀ k, 16 ≤ k → gF g k) (hN : NR ρ) (hW : WF b) (hI : IK b ρ p S) (hρ' : prQ b p ρ = ρ') (h : ∀ v S', RfN b (farC b) v → IK b ρ' (prP b p) S' → Fr FNt S S' → Q v S') : CALLi g (d + 9) mX11_far [.ref 16] ρ ρ' S Q := by
  have hrc := prQ_rc b p ρ
  have nr' : NR (prQ b p ρ) := hN.pr
  rw [hρ'] at hrc nr'
  refine eX11_far hN.1 (ρ1 := ρ') nr'.1 (Nat.le_refl _) (Nat.le_refl _) hrc.1 hrc.2 (sC_list hA hN hW hI hρ' (fun c e i => ?_) (fun c1 c2 e i => ?_) (fun c1 c2 e S1 a f1 f2 ⟨V, f3⟩ k2 i1 ik fr => ?_))
  · rw [if_neg (by decide)]
    exact ⟨rfl, h _ S (Or.inl ⟨c, rfl⟩) (by rw [e]; exact i) (Fr.rf S)⟩
  · rw [if_neg (by decide)]
    exact ⟨rfl, h _ S (Or.inr (Or.inl ⟨c1, c2, rfl⟩)) (by rw [e]; exact i) (Fr.rf S)⟩
  · rw [if_pos rfl]
    have hRa : nR a ≠ 0 := by rw [← f2.1]; exact c1
    have hr := (KK_cel hW c1).1
    refine sC_rankNow nr'.1 hW ik.1 c1 f1 f2 f3 ?_
    refine sC_greatest hA nr' f1 hRa (by rw [← KK_smp f2]; exact c2) i1 (by rw [← KK_smp f2]; exact hr) (fun S2 dm i2 e2 fr2 => ⟨rfl, ?_⟩)
    rw [← KK_smp f2]
    refine h _ S2 (Or.inr (Or.inr ⟨c1, c2, _, ?_, rfl⟩)) (by rw [e]; exact ik.net c1 f2 c2 i2 e2 fr2) (fr.tr fr2)
    rw [KK_smp f2, adjS_smp f2]
    exact dm
theorem sC_farthest {Q : Int32 → St → Prop} {ρ' : Rs} (hA : ∀ k, 16 ≤ k → gF g k) (hN : NR ρ) (hW : WF b) (hI : IK b ρ p S) (hρ' : prQ b p ρ = ρ') (h : ∀ v S', RfN b (fthC b) v → IK b ρ' (prP b p) S' → Fr FNt S S' → Q v S') : CALLi g (d + 9) mX11_farthest [.ref 16] ρ ρ' S Q := by
  have hrc := prQ_rc b p ρ
  have nr' : NR (prQ b p ρ) := hN.pr
  rw [hρ'] at hrc nr'
  refine eX11_farthest hN.1 (ρ1 := ρ') nr'.1 (Nat.le_refl _) (Nat.le_refl _) hrc.1 hrc.2 (sC_list hA hN hW hI hρ' (fun c e i => ?_) (fun c1 c2 e i => ?_) (fun c1 c2 e S1 a f1 f2 ⟨V, f3⟩ k2 i1 ik fr => ?_))
  · rw [if_neg (by decide)]
    exact ⟨rfl, h _ S (Or.inl ⟨c, rfl⟩) (by rw [e]; exact i) (Fr.rf S)⟩
  · rw [if_neg (by decide)]
    exact ⟨rfl, h _ S (Or.inr (Or.inl ⟨c1, c2, rfl⟩)) (by rw [e]; exact i) (Fr.rf S)⟩
  · rw [if_pos rfl]
    have hRa : nR a ≠ 0 := by rw [← f2.1]; exact c1
    have hr := (KK_cel hW c1).1
    refine sC_rankNow nr'.1 hW ik.1 c1 f1 f2 f3 ?_
    refine sC_first hA nr' f1 hRa (by rw [← KK_smp f2]; exact c2) i1 (by rw [← KK_smp f2]; exact hr) (fun k S2 hk dm q1 q2 i2 e2 fr2 => ⟨rfl, ?_⟩)
    refine h _ S2 (Or.inr (Or.inr ⟨c1, c2, S2.1 76, k, ?_, ?_, ?_, ?_, rfl⟩)) (by rw [e]; exact ik.net c1 f2 c2 i2 e2 fr2) (fr.tr fr2)
    · rw [KK_smp f2, adjS_smp f2]; exact dm
    · rw [KK_smp f2]; exact hk
    · rw [KK_smp f2]; exact q1
    · rw [KK_smp f2]; exact q2
theorem sC_within {Q : Int32 → St → Prop} {ρ' : Rs} {x : Int32} (hA : ∀ k, 16 ≤ k → gF g k) (hN : NR ρ) (hW : WF b) (hI : IK b ρ p S) (hρ' : witQ b p x ρ = ρ') (h : ∀ v S', witR b x v → IK b ρ' (witP b p x) S' → Fr FNt S S' → Q v S') : CALLi g (d + 9) mX11_within [.ref 16, .int x] ρ ρ' S Q := by
  by_cases c : vp_in x 41
  rotate_left
  · obtain ⟨w1, w2⟩ := wit_n (b := b) (p := p) (ρ := ρ) c
    rw [w1] at hρ'
    rw [w2] at h
    refine eX11_within hN.1 (ρ1 := ρ') (by rw [← hρ']; exact hN.1) (Nat.le_refl _) (Nat.le_refl _) (by rw [hρ']; exact Nat.le_refl _) (by rw [hρ']; exact Nat.le_refl _) ?_
    have hh := h _ S (Or.inl ⟨c, rfl⟩) (by rw [← hρ']; exact hI) (Fr.rf S)
    by_cases c1 : x < 0
    · rw [if_pos c1]; exact ⟨hρ', hh⟩
    · rw [if_neg c1]
      obtain ⟨i, hi, ei⟩ := nI_of c1
      rw [if_neg (show ¬ x ≤ 40 from fun z => c (by rw [ei] at z ⊢; have := (nI_leI (b := 40) hi (by omega)).mp z; exact vp_in_nI (by omega) (by omega)))]
      exact ⟨hρ', hh⟩
  obtain ⟨w1, w2⟩ := wit_y (b := b) (p := p) (ρ := ρ) c
  rw [w1] at hρ'
  rw [w2] at h
  have hrc := prQ_rc b p ρ
  have nr' : NR (prQ b p ρ) := hN.pr
  rw [hρ'] at hrc nr'
  obtain ⟨xi, hxi, exi⟩ := vp_in_of c (by omega)
  refine eX11_within hN.1 (ρ1 := ρ') nr'.1 (Nat.le_refl _) (Nat.le_refl _) hrc.1 hrc.2 ?_
  rw [if_neg (show ¬ x < 0 by rw [exi]; exact nI_nlt (b := 0) (by omega) (by omega)), if_pos (show x ≤ 40 by rw [exi]; exact nI_le (b := 40) (by omega) (by omega))]
  have h' := fun v S' q => h v S' (Or.inr ⟨c, q⟩)
  refine sC_list hA hN hW hI hρ' (fun c e i => ?_) (fun c1 c2 e i => ?_) (fun c1 c2 e S1 a f1 f2 ⟨V, f3⟩ k2 i1 ik fr => ?_)
  · rw [if_neg (by decide)]
    exact ⟨rfl, h' _ S (Or.inl ⟨c, rfl⟩) (by rw [e]; exact i) (Fr.rf S)⟩
  · rw [if_neg (by decide)]
    exact ⟨rfl, h' _ S (Or.inr (Or.inl ⟨c1, c2, rfl⟩)) (by rw [e]; exact i) (Fr.rf S)⟩
  · rw [if_pos rfl]
    have hRa : nR a ≠ 0 := by rw [← f2.1]; exact c1
    have hr := (KK_cel hW c1).1
    refine sC_rankNow nr'.1 hW ik.1 c1 f1 f2 f3 ?_
    refine sC_reached hA nr' f1 hRa (by rw [← KK_smp f2]; exact c2) i1 (by rw [← KK_smp f2]; exact hr) (fun S2 dm i2 e2 fr2 => ⟨rfl, ?_⟩)
    rw [← KK_smp f2]
    refine h' _ S2 (Or.inr (Or.inr ⟨c1, c2, S2.1 76, ?_, rfl⟩)) (by rw [e]; exact ik.net c1 f2 c2 i2 e2 fr2) (fr.tr fr2)
    rw [KK_smp f2, adjS_smp f2]
    exact dm
theorem sC_ways {Q : Int64 → St → Prop} {ρ' : Rs} {x y : Int32} (hA : ∀ k, 16 ≤ k → gF g k) (hN : NR ρ) (hW : WF b) (hI : IK b ρ p S) (hρ' : wayQ b p x y ρ = ρ') (h : ∀ v S', wayR b x y v → IK b ρ' (wayP b p x) S' → Fr FNt S S' → Q v S') : CALLl g (d + 10) mX11_ways [.ref 16, .int x, .int y] ρ ρ' S Q := by
  by_cases c : vp_in x 5
  rotate_left
  · have w1 : wayQ b p x y ρ = ρ := if_neg (fun z => c (inB_iff.mp z))
    have w2 : wayP b p x = p := if_neg (fun z => c (inB_iff.mp z))
    rw [w1] at hρ'
    rw [w2] at h
    refine eX11_ways hN.1 (ρ1 := ρ') (by rw [← hρ']; exact hN.1) (Nat.le_refl _) (Nat.le_refl _) (ρ3 := ρ') (by rw [← hρ']; exact hN.1) (Nat.le_refl _) (Nat.le_refl _) (by rw [hρ']; exact Nat.le_refl _) (by rw [hρ']; exact Nat.le_refl _) ?_
    have hh := h _ S (Or.inl ⟨Or.inl c, rfl⟩) (by rw [← hρ']; exact hI) (Fr.rf S)
    by_cases c1 : x < 0
    · rw [if_pos c1]; exact ⟨hρ', hh⟩
    · rw [if_neg c1]
      obtain ⟨i, hi, ei⟩ := nI_of c1
      rw [if_neg (show ¬ x ≤ 4 from fun z => c (by rw [ei] at z ⊢; have := (nI_leI (b := 4) hi (by omega)).mp z; exact vp_in_nI (by omega) (by omega)))]
      exact ⟨hρ', hh⟩
  have w1 : wayQ b p x y ρ = if wayB b y = true then swk x.toNatClampNeg (prQ b p ρ) else prQ b p ρ := if_pos (inB_iff.mpr c)
  have w2 : wayP b p x = prP b p := if_pos (inB_iff.mpr c)
  rw [w1] at hρ'
  rw [w2] at h
  obtain ⟨xi, hxi, exi⟩ := vp_in_of c (by omega)
  have ecl : x.toNatClampNeg = xi := by rw [exi, nI_clamp (by omega)]
  rw [ecl] at hρ'
  have hrc := prQ_rc b p ρ
  have nr1 : NR (prQ b p ρ) := hN.pr
  have hsw := swk_rc xi (prQ b p ρ)
  have hc1 : rc (prQ b p ρ) ≤ rc ρ' ∧ ru (prQ b p ρ) ≤ ru ρ' := by
    rw [← hρ']
    split
    · omega
    · omega
  have nr' : NR ρ' := by
    rw [← hρ']
    split
    · exact NR.swk _ nr1
    · exact nr1
  refine eX11_ways hN.1 (ρ1 := prQ b p ρ) nr1.1 hc1.1 hc1.2 (ρ3 := ρ') nr'.1 (Nat.le_refl _) (Nat.le_refl _) (Nat.le_trans hrc.1 hc1.1) (Nat.le_trans hrc.2 hc1.2) ?_
  rw [if_neg (show ¬ x < 0 by rw [exi]; exact nI_nlt (b := 0) (by omega) (by omega)), if_pos (show x ≤ 4 by rw [exi]; exact nI_le (b := 4) (by omega) (by omega))]
  have no : ¬ wayB b y = true → prQ b p ρ = ρ' := fun z => by rw [if_neg z] at hρ'; exact hρ'
  refine sC_rankQ hA hN hW hI rfl (fun z S' i fr => ?_) (fun z1 z2 i => ?_) (fun c1 c2 e i S1 a hi ei f1 f2 ⟨V, f3⟩ k2 i1 ik fr => ?_)
  · rw [if_neg (by decide)]
    have er := no (fun q => by
      have q2 := wayB_iff.mp q
      rcases z with z | z
      · exact q2.1 z
      · exact z.2.2 q2.2.2)
    refine ⟨er, h _ S' ?_ (by rw [← er]; exact i) fr⟩
    rcases z with z | z
    · exact Or.inl ⟨Or.inr z, rfl⟩
    · exact Or.inr (Or.inr (Or.inl ⟨c, z.1, z.2.1, z.2.2, rfl⟩))
  · rw [if_neg (by decide)]
    have er := no (fun q => by have q2 := wayB_iff.mp q; omega)
    exact ⟨er, h _ S (Or.inr (Or.inl ⟨c, z1, z2, rfl⟩)) (by rw [← er]; exact i) (Fr.rf S)⟩
  · rw [if_pos rfl, ei]
    have hRa : nR a ≠ 0 := by rw [← f2.1]; exact c1
    have hr := (KK_cel hW c1).1
    have er : swk xi (prQ b p ρ) = ρ' := by
      rw [if_pos (wayB_iff.mpr ⟨c1, c2, by rw [ei]; exact vp_in_nI hi (by omega)⟩)] at hρ'
      exact hρ'
    refine sC_rankNow nr1.1 hW ik.1 c1 f1 f2 f3 ?_
    rw [exi]
    refine sC_choiceRows hA nr1 f1 hRa (by rw [← KK_smp f2]; exact c2) i1 k2 (by rw [← KK_smp f2]; exact hr) (by rw [← KK_smp f2]; exact hi) (by omega) er (fun S2 i2 e2 fr2 => ⟨rfl, ?_⟩)
    rw [← Wv_smp f2]
    have ik' : IK b ρ' true S1 := by
      obtain ⟨h1, h2, h3, h4⟩ := ik
      refine ⟨h1, h2, h3, fun z => ?_⟩
      obtain ⟨a', V', q1, q2, q3⟩ := h4 z
      refine ⟨a', V', q1, q2, fun _ => ⟨(q3 rfl).1, ?_⟩⟩
      rw [← er]
      exact (q3 rfl).2.swk xi
    exact h _ S2 (Or.inr (Or.inr (Or.inr ⟨c, c1, c2, xi, i, hxi, exi, hi, ei, rfl⟩))) (by rw [e]; exact ik'.net c1 f2 c2 i2 e2 fr2) (fr.tr fr2)
end CB
