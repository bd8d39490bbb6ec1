-- THE CLASS'S MEASURES, with what they remember
def MS (a : AS) (V : Nat → List Nat) (S : St) : Prop := ∀ w, w < 4 → (S.1 65 w = 0 ∨ S.1 65 w = 1 ∧ BDn a V w 0 S) ∧ (S.1 66 w = 0 ∨ S.1 66 w = 1 ∧ ∃ v, v < 2 ^ 63 ∧ S.2 67 w = lN v ∧ S.2 68 w = lN ((KK a).filter (sat a w v)).length ∧ S.2 69 w = lN (sml (wK a) ((KK a).filter (sat a w v))))
def FMs (k : Nat) : Prop := 54 ≤ k ∧ k ≤ 69
theorem MS.fr {a : AS} {V : Nat → List Nat} {S S' : St} (h : MS a V S) (h1 : ∀ k, FMs k → S'.1 k = S.1 k) (h2 : ∀ k, FMs k → S'.2 k = S.2 k) : MS a V S' := by
  intro w hw
  obtain ⟨k1, k2⟩ := h w hw
  rw [h1 65 (by unfold FMs; omega), h1 66 (by unfold FMs; omega), h2 67 (by unfold FMs; omega), h2 68 (by unfold FMs; omega), h2 69 (by unfold FMs; omega)]
  exact ⟨k1.imp id (fun z => ⟨z.1, z.2.of (h2 _ (by unfold FMs; omega)) (h2 _ (by unfold FMs; omega))⟩), k2⟩
theorem flt_sat {a : AS} (hW : WF a) (hR : nR a ≠ 0) {w lim : Nat} (hw : w < 4) : cntG a w lim (stt w) 4 0 (cU a) = ((KK a).filter (sat a w lim)).length ∧ wsG a w lim (stt w) 4 0 (cU a) = sml (wK a) ((KK a).filter (sat a w lim)) := by
  have e : (PT a 4 0 (cU a)).filter (stq w lim (stt w) (tm a w 4 0)) = (KK a).filter (sat a w lim) := by
    rw [← KK_PT hW hR]
    refine List.filter_congr (fun p hp => ?_)
    unfold stq sat
    rw [(jn_e hw _).2, ← tm_mea hW hR hw hp]
    by_cases c : w = 0
    · rw [if_pos c, if_pos c, c]
    · rw [if_neg c, if_neg c]
  unfold cntG wsG
  rw [e]
  refine ⟨Eq.refl _, ?_⟩
  exact sml_congr _ (fun p hp => (wK_pr hW hR (List.mem_filter.mp hp).1).symm)
section MM
variable {g : GX} {d : Nat} {ρ : Rs} {S : St} {a b : AS} {V : Nat → List Nat}
theorem sC_bound2 {Q : St → Prop} (hρ : Ok ρ) (hF : ∀ k, FMs k → gF g k) (hW : WF a) (hR : nR a ≠ 0) (hI : IFb a V S) (hM : MS a V S) {w : Nat} (hw : w < 4) (h : ∀ S', IFb a V S' → MS a V S' → BDn a V w 0 S' → Fr FMs S S' → (∀ k, k = 66 → S'.1 k = S.1 k) → (∀ k, k = 67 → S'.2 k = S.2 k) → Q S') : CALLv g (d + 6) mX4_bound [.ref 54, .int (nI w)] ρ ρ S Q := by
  refine sC_bound hρ (fun k hk => hF k (by simp at hk; unfold FMs; omega)) (fun i hi => hF _ (by unfold FMs; omega)) (fun i hi => hF _ (by unfold FMs; omega)) hW hR hI hw (hM w hw).1 (fun S1 k1 k2 k3 k4 => ?_)
  have k3' : ∀ k, k ≠ 65 → S1.1 k = S.1 k := fun k hk => funext fun i => k3 k i (fun z => hk z.1)
  refine h S1 (hI.fr (fun k hk => k3' k (by unfold FFb at hk; omega)) (fun k hk => k4 k (by unfold FFb at hk; omega) (by unfold FFb at hk; omega))) (fun w' hw' => ?_) k1 (fun k hk => ⟨k3' k (fun z => hk (by unfold FMs; omega)), k4 k (fun z => hk (by unfold FMs; omega)) (fun z => hk (by unfold FMs; omega))⟩) (fun k hk => k3' k (by omega)) (fun k hk => k4 k (by omega) (by omega))
  rw [k3' 66 (by decide), k4 67 (by omega) (by omega), k4 68 (by omega) (by omega), k4 69 (by omega) (by omega)]
  refine ⟨?_, (hM w' hw').2⟩
  by_cases c : w' = w
  · rw [c]; exact Or.inr ⟨k2, k1⟩
  · rw [k3 65 w' (fun z => c z.2)]
    exact (hM w' hw').1.imp id (fun z => ⟨z.1, z.2.of (k4 _ (by omega) (by omega)) (k4 _ (by omega) (by omega))⟩)
theorem root_ne (hW : WF a) (hR : nR a ≠ 0) : PT a (4 - 0) 0 (cU a) ≠ [] := by
  intro z
  have h1 := KK_nil hW hR
  rw [KK_PT hW hR] at h1
  rw [show PT a 4 0 (cU a) = [] from z] at h1
  exact absurd h1 (by simp)
theorem sC_gatherAll {Q : St → Prop} (hρ : Ok ρ) (hF : ∀ k, FMs k → gF g k) (hW : WF a) (hR : nR a ≠ 0) (hI : IFb a V S) (hM : MS a V S) {w lim : Nat} (hw : w < 4) (hlim : lim < 2 ^ 63) (h : ∀ S', IFb a V S' → MS a V S' → Fr FMs S S' → S'.2 68 w = lN ((KK a).filter (sat a w lim)).length → S'.2 69 w = lN (sml (wK a) ((KK a).filter (sat a w lim))) → Q S') : CALLv g (d + 14) mX4_gatherAll [.ref 54, .int (nI w), .long (lN lim)] ρ ρ S Q := by
  have hle := hW.le
  have hT := hW.told hR
  have vw : vp_in (nI w) 4 := vp_in_nI hw (by omega)
  have go : AW g ρ (QV Q) (d + 13 + 1) mX4_gatherAll 25 [(0, .ref 54), (1, .int (nI w)), (2, .long (lN lim))] [] ρ S := by
    refine eX4_gatherAll_25 hρ (fun k hk => hF k (by simp at hk; unfold FMs; omega)) ?_
    refine sC_bound2 hρ hF hW hR hI hM hw (fun S1 i1 m1 b1 f1 j1 j2 => ?_)
    rw [nI_clamp (show w < 2 ^ 31 by omega)]
    refine sC_start hρ hw ?_
    have q54 : FMs 54 := ⟨by omega, by omega⟩
    have f2 : Fr FMs S1 (setL (setL (setL S1 54 8 (lN lim)) 54 9 0) 54 10 0) := Fr.tr (Fr.tr (Fr.setL (F := FMs) _ _ _ q54) (Fr.setL (F := FMs) _ _ _ q54)) (Fr.setL (F := FMs) _ _ _ q54)
    have t2 : ∀ k, k ≠ 54 → (setL (setL (setL S1 54 8 (lN lim)) 54 9 0) 54 10 0).2 k = S1.2 k := fun k hk => by rw [setL_ne _ _ _ hk, setL_ne _ _ _ hk, setL_ne _ _ _ hk]
    have t8 : (setL (setL (setL S1 54 8 (lN lim)) 54 9 0) 54 10 0).2 54 8 = lN lim := by rw [setL_at, if_neg (by omega), setL_at, if_neg (by omega), setL_at, if_pos ⟨rfl, rfl⟩]
    have t9 : (setL (setL (setL S1 54 8 (lN lim)) 54 9 0) 54 10 0).2 54 9 = 0 := by rw [setL_at, if_neg (by omega), setL_at, if_pos ⟨rfl, rfl⟩]
    have t10 : (setL (setL (setL S1 54 8 (lN lim)) 54 9 0) 54 10 0).2 54 10 = 0 := by rw [setL_at, if_pos ⟨rfl, rfl⟩]
    have t1 : (setL (setL (setL S1 54 8 (lN lim)) 54 9 0) 54 10 0).1 = S1.1 := rfl
    generalize setL (setL (setL S1 54 8 (lN lim)) 54 9 0) 54 10 0 = T1 at f2 t2 t8 t9 t10 t1 ⊢
    have i2 : IFb a V T1 := i1.fr (fun k hk => (f2 k (fun z => by unfold FMs at z; unfold FFb at hk; omega)).1) (fun k hk => (f2 k (fun z => by unfold FMs at z; unfold FFb at hk; omega)).2)
    have b2 : BDn a V w 0 T1 := b1.of (t2 _ (by omega)) (t2 _ (by omega))
    have h0 : V 0 = [] ++ cU a :: [] := i2.1.1.2.2.2.1
    have hsb : ∀ q, q ∈ PT a (4 - 0) 0 (cU a) → jn w (stt w) (tm a w (4 - 0) 0 q) < 2 ^ 63 := by
      intro q hq
      rw [(jn_e hw _).2]
      have := tm_lt (w := w) hT (cU_ok hT).1 (by omega) hq
      omega
    have ga := sC_gather (d := d + 2 * (4 - nR a)) (V := V) hρ (fun k hk => hF k (by simp at hk; unfold FMs; omega)) hW hR hw hlim (nR a) 0 (cU a) [] [] (stt w) 1 T1 (fun S3 => vp_in (nI w) 4 ∧ (vp_in (nI w) 4 ∧ (vp_in (nI w) 4 ∧ (vp_in (nI w) 4 ∧ (Q (setL (setL (setL (setI S3 66 w 1) 67 w (lN lim)) 68 w (S3.2 54 9)) 69 w (S3.2 54 10))))))) (by omega) h0 (root_ne hW hR) hsb i2 b2 t8 (fun S3 m1' m2 m3 m4 => ⟨vw, vw, vw, vw, ?_⟩)
    · rw [show 2 * nR a + (d + 2 * (4 - nR a)) + 5 = d + 13 by omega] at ga
      exact ga
    · obtain ⟨g1, g2⟩ := flt_sat hW hR (w := w) (lim := lim) hw
      have m3' : S3.2 54 9 = lN ((KK a).filter (sat a w lim)).length := by
        rw [m3, t9, ← g1]
        exact Int64.zero_add _
      have m4' : S3.2 54 10 = lN (sml (wK a) ((KK a).filter (sat a w lim))) := by
        rw [m4, t10, ← g2, Nat.one_mul]
        exact Int64.zero_add _
      have f3 : Fr FMs T1 S3 := fun k hk => ⟨by rw [m1'], funext fun i => m2 k i (fun z => hk (by unfold FMs; omega))⟩
      have q : ∀ k, 54 ≤ k → k ≤ 69 → FMs k := fun k a b => ⟨a, b⟩
      have f4 : Fr FMs S3 (setL (setL (setL (setI S3 66 w 1) 67 w (lN lim)) 68 w (S3.2 54 9)) 69 w (S3.2 54 10)) := Fr.tr (Fr.tr (Fr.tr (Fr.setI (F := FMs) _ _ _ (q 66 (by omega) (by omega))) (Fr.setL (F := FMs) _ _ _ (q 67 (by omega) (by omega)))) (Fr.setL (F := FMs) _ _ _ (q 68 (by omega) (by omega)))) (Fr.setL (F := FMs) _ _ _ (q 69 (by omega) (by omega)))
      have f5 := f3.tr f4
      have u67 : (setL (setL (setL (setI S3 66 w 1) 67 w (lN lim)) 68 w (S3.2 54 9)) 69 w (S3.2 54 10)).2 67 w = lN lim := by rw [setL_ne _ _ _ (by decide), setL_ne _ _ _ (by decide), setL_at, if_pos ⟨rfl, rfl⟩]
      have u68 : (setL (setL (setL (setI S3 66 w 1) 67 w (lN lim)) 68 w (S3.2 54 9)) 69 w (S3.2 54 10)).2 68 w = lN ((KK a).filter (sat a w lim)).length := by rw [setL_ne _ _ _ (by decide), setL_at, if_pos ⟨rfl, rfl⟩]; exact m3'
      have u69 : (setL (setL (setL (setI S3 66 w 1) 67 w (lN lim)) 68 w (S3.2 54 9)) 69 w (S3.2 54 10)).2 69 w = lN (sml (wK a) ((KK a).filter (sat a w lim))) := by rw [setL_at, if_pos ⟨rfl, rfl⟩]; exact m4'
      have e65 : (setL (setL (setL (setI S3 66 w 1) 67 w (lN lim)) 68 w (S3.2 54 9)) 69 w (S3.2 54 10)).1 65 = S1.1 65 := by rw [setL_I, setL_I, setL_I, setI_ne _ _ _ (by decide), m1', t1]
      have e66 : ∀ w', (setL (setL (setL (setI S3 66 w 1) 67 w (lN lim)) 68 w (S3.2 54 9)) 69 w (S3.2 54 10)).1 66 w' = if w' = w then 1 else S1.1 66 w' := by
        intro w'
        rw [setL_I, setL_I, setL_I, setI_at, m1', t1]
        by_cases c : w' = w
        · rw [if_pos ⟨rfl, c⟩, if_pos c]
        · rw [if_neg (fun z => c z.2), if_neg c]
      have eS3 : ∀ k, k ≠ 54 → S3.2 k = S1.2 k := fun k hk => by
        rw [← t2 k hk]
        funext i
        exact m2 k i (fun z => hk z.1)
      have e5 : ∀ k, k ≠ 54 → k ≠ 67 → k ≠ 68 → k ≠ 69 → (setL (setL (setL (setI S3 66 w 1) 67 w (lN lim)) 68 w (S3.2 54 9)) 69 w (S3.2 54 10)).2 k = S1.2 k := fun k c0 c1 c2 c3 => by
        rw [setL_ne _ _ _ c3, setL_ne _ _ _ c2, setL_ne _ _ _ c1, setI_L]
        exact eS3 k c0
      have e6 : ∀ k i, k ≠ 54 → i ≠ w → (setL (setL (setL (setI S3 66 w 1) 67 w (lN lim)) 68 w (S3.2 54 9)) 69 w (S3.2 54 10)).2 k i = S1.2 k i := fun k i c0 c => by
        rw [setL_at, if_neg (fun z => c z.2), setL_at, if_neg (fun z => c z.2), setL_at, if_neg (fun z => c z.2), setI_L, eS3 k c0]
      generalize setL (setL (setL (setI S3 66 w 1) 67 w (lN lim)) 68 w (S3.2 54 9)) 69 w (S3.2 54 10) = S4 at f4 f5 u67 u68 u69 e65 e66 e5 e6 ⊢
      refine h S4 (i2.fr (fun k hk => (f5 k (fun z => by unfold FMs at z; unfold FFb at hk; omega)).1) (fun k hk => (f5 k (fun z => by unfold FMs at z; unfold FFb at hk; omega)).2)) (fun w' hw' => ?_) (Fr.tr (Fr.tr f1 f2) f5) u68 u69
      rw [e65, e66]
      refine ⟨(m1 w' hw').1.imp id (fun z => ⟨z.1, z.2.of (e5 _ (by omega) (by omega) (by omega) (by omega)) (e5 _ (by omega) (by omega) (by omega) (by omega))⟩), ?_⟩
      by_cases c : w' = w
      · rw [if_pos c, c]
        exact Or.inr ⟨rfl, lim, hlim, u67, u68, u69⟩
      · rw [if_neg c, e6 67 w' (by decide) c, e6 68 w' (by decide) c, e6 69 w' (by decide) c]
        exact (m1 w' hw').2
  refine eX4_gatherAll hρ ?_
  rw [nI_clamp (show w < 2 ^ 31 by omega)]
  refine ⟨vw, ?_⟩
  rcases (hM w hw).2 with c | ⟨c, v, v1, v2, v3, v4⟩
  · rw [if_pos c]
    exact go
  · rw [if_neg (by rw [c]; decide), v2]
    refine ⟨vw, ?_⟩
    by_cases e : v = lim
    · rw [if_pos (by rw [e])]
      rw [e] at v3 v4
      exact h S hI hM (Fr.rf S) v3 v4
    · rw [if_neg (by rw [lNeq (by omega) (by omega)]; exact e)]
      exact go
theorem sat_smp (h : Smp a b) (w v p : Nat) : sat b w v p = sat a w v p := by unfold sat; rw [mea_smp h, mea_smp h]
theorem flt_smp (h : Smp a b) (w v : Nat) : (KK b).filter (sat b w v) = (KK a).filter (sat a w v) := by
  rw [KK_smp h]
  exact List.filter_congr (fun p _ => sat_smp h w v p)
/-- what the class keeps of the fiber and its measures -/
def ICm (b : AS) (a : AS) (V : Nat → List Nat) (S : St) : Prop := WF a ∧ Smp a b ∧ IFb a V S ∧ MS a V S
theorem sC_extreme {Q : Int64 → St → Prop} (hρ : Ok ρ) (hFr : ∀ k, FMs k → gF g k) (hW : WF b) (hI : IB b S) (hF : nR b ≠ 0 → ICm b a V S) {x1 : Int32} (h0 : ¬ (nR b ≠ 0 ∧ vp_in x1 4) → Q (-2) S) (h1 : nR b ≠ 0 → vp_in x1 4 → ∀ S', ICm b a V S' → Fr FMs S S' → Q (lN ((KK b).filter (sat b x1.toNatClampNeg (mea b x1.toNatClampNeg (cel b)))).length) S') : CALLl g (d + 16) mX11_extreme [.ref 16, .int x1] ρ ρ S Q := by
  refine eX11_extreme hρ (sC_hasStat hρ hW hI (fun c => ?_) (fun c c1 => ?_))
  · rw [if_pos rfl]; exact h0 c
  · rw [if_neg (by decide)]
    obtain ⟨f1, f2, f3, f4⟩ := hF c
    have hRa : nR a ≠ 0 := by rw [← f2.1]; exact c
    obtain ⟨n1, n2⟩ := now_KK hW c f2
    have c2 := vin_cl c1
    rw [hI.2.2.2.2.2.2.2.2.2.2.2.1]
    have h2 := h1 c c1
    rw [vin_eq c1 (by omega)]
    refine eX4_farOut hρ (sC_valueOf hρ f1 hRa f3 n1 c2 ?_)
    rw [n2, ← mea_smp f2]
    have ml : mea b x1.toNatClampNeg (cel b) < 2 ^ 63 := mea_lt hW c (hW.told c).2.2.2.2.2.2.2.2.2.1 (Sam.rf _)
    refine sC_gatherAll hρ hFr f1 hRa f3 f4 c2 ml (fun S' k1 k2 k3 k4 k5 => ⟨vp_in_nI c2 (by omega), ?_⟩)
    rw [nI_clamp (by omega), k4, ← flt_smp f2]
    exact h2 S' ⟨f1, f2, k1, k2⟩ k3
theorem sC_share {Q : Int64 → St → Prop} (hρ : Ok ρ) (hFr : ∀ k, FMs k → gF g k) (hW : WF b) (hI : IB b S) (hF : nR b ≠ 0 → ICm b a V S) {x1 x2 : Int32} (h0 : ¬ (nR b ≠ 0 ∧ vp_in x1 4) → Q (-2) S) (h00 : nR b ≠ 0 → vp_in x1 4 → ¬ vp_in x2 2 → ∀ S', ICm b a V S' → Fr FMs S S' → Q (-2) S') (h1 : nR b ≠ 0 → vp_in x1 4 → vp_in x2 2 → ∀ S', ICm b a V S' → Fr FMs S S' → Q (lN (low (sml (wK b) ((KK b).filter (sat b x1.toNatClampNeg (mea b x1.toNatClampNeg (cel b))))) (sml (wK b) (KK b)) x2.toNatClampNeg)) S') : CALLl g (d + 16) mX11_share [.ref 16, .int x1, .int x2] ρ ρ S Q := by
  refine eX11_share hρ (sC_hasStat hρ hW hI (fun c => ?_) (fun c c1 => ?_))
  · rw [if_pos rfl]; exact h0 c
  · rw [if_neg (by decide)]
    obtain ⟨f1, f2, f3, f4⟩ := hF c
    have hRa : nR a ≠ 0 := by rw [← f2.1]; exact c
    obtain ⟨n1, n2⟩ := now_KK hW c f2
    have c2 := vin_cl c1
    rw [hI.2.2.2.2.2.2.2.2.2.2.2.1]
    have h2 := h1 c c1
    have h3 := h00 c c1
    rw [flt_smp f2, KK_smp f2, sml_congr (g := wK a) (KK a) (fun p _ => wK_smp f2 p), sml_congr (g := wK a) _ (fun p _ => wK_smp f2 p)] at h2
    rw [vin_eq c1 (by omega)]
    refine eX4_farOutHeft hρ (sC_valueOf hρ f1 hRa f3 n1 c2 ?_)
    rw [n2, ← mea_smp f2]
    have ml : mea b x1.toNatClampNeg (cel b) < 2 ^ 63 := mea_lt hW c (hW.told c).2.2.2.2.2.2.2.2.2.1 (Sam.rf _)
    refine sC_gatherAll hρ hFr f1 hRa f3 f4 c2 ml (fun S' k1 k2 k3 k4 k5 => ⟨vp_in_nI c2 (by omega), ?_⟩)
    rw [nI_clamp (by omega), k5]
    refine sC_heft hρ f1 hRa k1 ?_
    obtain ⟨w1, w2, w3⟩ := wts_lt f1 hRa
    exact sC_lowest hρ (w3 _ _) w2 w1 (fun z => h3 z S' ⟨f1, f2, k1, k2⟩ k3) (fun z => h2 z S' ⟨f1, f2, k1, k2⟩ k3)
theorem tm_wK (hW : WF a) (hR : nR a ≠ 0) {p : Nat} (hp : p ∈ KK a) : tm a 0 4 0 p = wK a p := by
  rw [← tm_mea hW hR (by omega) hp]
  unfold mea wK
  rw [mea_0]
theorem getD_mem {L : List Nat} {i : Nat} (h : i < L.length) : L.getD i 0 ∈ L := by
  rw [List.getD_eq_getElem?_getD, List.getElem?_eq_getElem h]
  exact List.getElem_mem h
theorem FM_of {f f' : Nat → Nat} {L : List Nat} {v i : Nat} (he : ∀ p, p ∈ L → f p = f' p) (h : HiP f L v) (k : FP f L v i) : FM f' L i := by
  obtain ⟨k1, k2, k3⟩ := k
  refine ⟨k1, fun j hj => ?_, fun j hj => ?_⟩
  · rw [← he _ (getD_mem hj), ← he _ (getD_mem k1), k2]
    exact h.2 _ (getD_mem hj)
  · have hj2 : j < L.length := by omega
    rw [← he _ (getD_mem hj2), ← he _ (getD_mem k1), k2]
    have := h.2 _ (getD_mem hj2)
    have := k3 j hj
    omega
theorem FN_of {f f' : Nat → Nat} {L : List Nat} {v i : Nat} (he : ∀ p, p ∈ L → f p = f' p) (h : LoP f L v) (k : FP f L v i) : FN f' L i := by
  obtain ⟨k1, k2, k3⟩ := k
  refine ⟨k1, fun j hj => ?_, fun j hj => ?_⟩
  · rw [← he _ (getD_mem hj), ← he _ (getD_mem k1), k2]
    exact h.2 _ (getD_mem hj)
  · have hj2 : j < L.length := by omega
    rw [← he _ (getD_mem hj2), ← he _ (getD_mem k1), k2]
    have := h.2 _ (getD_mem hj2)
    have := k3 j hj
    omega
theorem wKf_smp (h : Smp a b) : wK b = wK a := funext (wK_smp h)
theorem sC_heaviest {Q : Int64 → St → Prop} (hρ : Ok ρ) (hFr : ∀ k, FMs k → gF g k) (hW : WF b) (hI : IB b S) (hF : nR b ≠ 0 → ICm b a V S) (h0 : nR b = 0 → Q (-2) S) (h1 : nR b ≠ 0 → ∀ S' i, ICm b a V S' → Fr FMs S S' → FM (wK b) (KK b) i → Q (lN i) S') : CALLl g (d + 8) mX11_heaviest [.ref 16] ρ ρ S Q := by
  refine eX11_heaviest hρ (sC_isTold hρ hW hI ?_)
  by_cases c : nR b = 0
  · rw [if_pos c, if_pos rfl]; exact h0 c
  · rw [if_neg c, if_neg (by decide)]
    obtain ⟨f1, f2, f3, f4⟩ := hF c
    have hRa : nR a ≠ 0 := by rw [← f2.1]; exact c
    have h2 := h1 c
    rw [wKf_smp f2, KK_smp f2] at h2
    refine eX4_firstHeaviest hρ (sC_bound2 (w := 0) hρ hFr f1 hRa f3 f4 (by omega) (fun S1 k1 k2 k3 k4 _ _ => ?_))
    refine sC_firstWith (b := true) hρ f1 hRa k1 (Or.inl ⟨rfl, rfl⟩) k3 (fun v i x1 x2 => h2 S1 i ⟨f1, f2, k1, k2⟩ k4 ?_)
    exact FM_of (fun p hp => tm_wK f1 hRa hp) (show HiP _ _ v from x1) x2
theorem sC_lightest {Q : Int64 → St → Prop} (hρ : Ok ρ) (hFr : ∀ k, FMs k → gF g k) (hW : WF b) (hI : IB b S) (hF : nR b ≠ 0 → ICm b a V S) (h0 : nR b = 0 → Q (-2) S) (h1 : nR b ≠ 0 → ∀ S' i, ICm b a V S' → Fr FMs S S' → FN (wK b) (KK b) i → Q (lN i) S') : CALLl g (d + 8) mX11_lightest [.ref 16] ρ ρ S Q := by
  refine eX11_lightest hρ (sC_isTold hρ hW hI ?_)
  by_cases c : nR b = 0
  · rw [if_pos c, if_pos rfl]; exact h0 c
  · rw [if_neg c, if_neg (by decide)]
    obtain ⟨f1, f2, f3, f4⟩ := hF c
    have hRa : nR a ≠ 0 := by rw [← f2.1]; exact c
    have h2 := h1 c
    rw [wKf_smp f2, KK_smp f2] at h2
    refine eX4_firstLightest hρ (sC_bound2 (w := 0) hρ hFr f1 hRa f3 f4 (by omega) (fun S1 k1 k2 k3 k4 _ _ => ?_))
    refine sC_firstWith (b := false) hρ f1 hRa k1 (Or.inr ⟨rfl, rfl⟩) k3 (fun v i x1 x2 => h2 S1 i ⟨f1, f2, k1, k2⟩ k4 ?_)
    exact FN_of (fun p hp => tm_wK f1 hRa hp) (show LoP _ _ v from x1) x2
theorem sC_mforget {Q : St → Prop} (hρ : Ok ρ) (hF : ∀ k ∈ ([65, 66] : List Nat), gF g k) (h : ∀ S', (∀ w, w < 4 → S'.1 65 w = 0 ∧ S'.1 66 w = 0) → Fr (fun k => k = 65 ∨ k = 66) S S' → Q S') : CALLv g (d + 3) mX4_forget [.ref 54] ρ ρ S Q := by
  refine eX4_forget hρ ?_
  have key : ∀ n w S1, n + w = 4 → (∀ j, j < w → S1.1 65 j = 0 ∧ S1.1 66 j = 0) → Fr (fun k => k = 65 ∨ k = 66) S S1 → AW g ρ (QV Q) (d + 3) mX4_forget 2 [(0, .ref 54), (1, .int (nI w))] [] ρ S1 := by
    intro n
    induction n with
    | zero =>
      intro w S1 hw h1 h2
      refine eX4_forget_2 hρ hF ?_
      rw [show w = 4 by omega] at h1 ⊢
      rw [if_pos (by decide)]
      exact h S1 h1 h2
    | succ n ih =>
      intro w S1 hw h1 h2
      refine eX4_forget_2 hρ hF ?_
      rw [if_neg (show ¬ (4 : Int32) ≤ nI w from nI_ge (b := 4) (by omega) (by omega)), nI_clamp (show w < 2 ^ 31 by omega), nI_1]
      refine ⟨vp_in_nI (by omega) (by omega), vp_in_nI (by omega) (by omega), ih (w + 1) _ (by omega) (fun j hj => ?_) (Fr.tr h2 (Fr.tr (Fr.setI (F := fun k => k = 65 ∨ k = 66) _ _ _ (Or.inl rfl)) (Fr.setI (F := fun k => k = 65 ∨ k = 66) _ _ _ (Or.inr rfl))))⟩
      rw [setI_ne _ _ _ (by decide), setI_at, setI_at, setI_ne _ _ _ (by decide)]
      by_cases c : j = w
      · rw [if_pos ⟨rfl, c⟩, if_pos ⟨rfl, c⟩]; exact ⟨rfl, rfl⟩
      · rw [if_neg (fun z => c z.2), if_neg (fun z => c z.2)]; exact h1 j (by omega)
  exact key 4 0 S (by omega) (fun j hj => absurd hj (by omega)) (Fr.rf S)
end MM
