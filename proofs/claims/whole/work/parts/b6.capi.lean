-- THE CLASS'S ANSWERS OUT OF THE NET
theorem TNs_smp {a b : AS} (h : Smp a b) : TNs b = TNs a := by
  unfold TNs tnL2 tnL1 freT
  rw [h.1, h.2.1, h.2.2.1]
theorem nxI_smp {a b : AS} (h : Smp a b) (i : Nat) (m : MVt) : nxI b i m = nxI a i m := by
  unfold nxI
  rw [KK_smp h, rkK_smp h]
theorem adjS_smp {a b : AS} (h : Smp a b) : adjS b = adjS a := by
  funext i j
  unfold adjS
  rw [KK_smp h, SWs_smp h]
theorem adjT_smp {a b : AS} (h : Smp a b) : adjT b = adjT a := by
  funext i j
  unfold adjT
  rw [KK_smp h, SWs_smp h, TNs_smp h]
theorem NB_smp {a b : AS} (h : Smp a b) (i : Nat) : NB b i = NB a i := by
  unfold NB
  rw [KK_smp h, SWs_smp h, show nxI b i = nxI a i from funext (nxI_smp h i)]
theorem FNo_smp {a b : AS} (h : Smp a b) (i : Nat) : FNo b i = FNo a i := sg_cg (fun k _ => by rw [NB_smp h])
theorem okC_smp {a b : AS} (h : Smp a b) (i : Nat) (m : MVt) : okC b i m ↔ okC a i m := by
  unfold okC frM
  rw [KK_smp h, h.1, h.2.1, h.2.2.1]
theorem vC_smp {a b : AS} (h : Smp a b) (c : Nat) : vC b c ↔ vC a c := by
  unfold vC
  rw [h.1, h.2.1]
theorem Wv_smp {a b : AS} (h : Smp a b) (s : Nat) : ∀ k i, Wv b s k i = Wv a s k i
  | 0, _ => rfl
  | k + 1, i => by
    show Wv b s k i * (chN b - nOk b i) + sg (fun j => Wv b s k j * nCh b i j) (KK b).length = Wv a s k i * (chN a - nOk a i) + sg (fun j => Wv a s k j * nCh a i j) (KK a).length
    have e1 : chN b = chN a := by unfold chN; rw [h.1, h.2.1]
    have e2 : nOk b i = nOk a i := sg_cg (fun c _ => ind_iff (and_congr (vC_smp h c) (okC_smp h i _)))
    have e3 : ∀ j, nCh b i j = nCh a i j := fun j => sg_cg (fun c _ => ind_iff (and_congr (vC_smp h c) (and_congr (okC_smp h i _) (by rw [nxI_smp h]))))
    have e4 : sg (fun j => Wv b s k j * nCh b i j) (KK a).length = sg (fun j => Wv a s k j * nCh a i j) (KK a).length := sg_cg (fun j _ => by rw [Wv_smp h s k j, e3 j])
    rw [Wv_smp h s k i, e1, e2, KK_smp h, e4]
/-- what the class holds: p: the net is made -/
def IK (b : AS) (ρ : Rs) (p : Bool) (S : St) : Prop := IB b S ∧ S.1 70 2 = wI p ∧ (nR b = 0 → p = false) ∧ (nR b ≠ 0 → ∃ a V, ICm b a V S ∧ MVd a S ∧ (p = true → (KK a).length ≤ 1000 ∧ IN a ρ S))
/-- what becomes of references and of p where a list is asked for -/
def prQ (b : AS) (p : Bool) (ρ : Rs) : Rs := if nR b = 0 then ρ else if 1000 < (KK b).length then ρ else if p = true then ρ else psh 0 (FNo b (KK b).length) ρ
def prP (b : AS) (p : Bool) : Bool := if nR b = 0 then p else if 1000 < (KK b).length then p else true
theorem prQ_rc (b : AS) (p : Bool) (ρ : Rs) : rc ρ ≤ rc (prQ b p ρ) ∧ ru ρ ≤ ru (prQ b p ρ) := by
  unfold prQ
  by_cases c1 : nR b = 0
  · rw [if_pos c1]; exact ⟨Nat.le_refl _, Nat.le_refl _⟩
  · rw [if_neg c1]
    by_cases c2 : 1000 < (KK b).length
    · rw [if_pos c2]; exact ⟨Nat.le_refl _, Nat.le_refl _⟩
    · rw [if_neg c2]
      by_cases c3 : p = true
      · rw [if_pos c3]; exact ⟨Nat.le_refl _, Nat.le_refl _⟩
      · rw [if_neg c3]; exact psh_rc _ _ _
theorem NR.pr {b : AS} {p : Bool} {ρ : Rs} (h : NR ρ) : NR (prQ b p ρ) := by
  unfold prQ
  by_cases c1 : nR b = 0
  · rw [if_pos c1]; exact h
  · rw [if_neg c1]
    by_cases c2 : 1000 < (KK b).length
    · rw [if_pos c2]; exact h
    · rw [if_neg c2]
      by_cases c3 : p = true
      · rw [if_pos c3]; exact h
      · rw [if_neg c3]; exact NR.psh _ _ h
theorem IN.of2 {a : AS} {ρ : Rs} {S S' : St} (h : IN a ρ S) (hN : NR ρ) (e : ∀ k, (70 ≤ k ∧ k ≤ 79) ∨ (95 ≤ k ∧ k < rn ρ) → S'.1 k = S.1 k ∧ S'.2 k = S.2 k) : IN a ρ S' := by
  obtain ⟨kn, k1, k2, k3, k4⟩ := hN.2.1
  obtain ⟨⟨kn', k1', c1, c2, c3⟩, h2, h3, h4, h5, h6, h7⟩ := h
  rw [k1] at k1'
  rw [← Option.some.inj k1'] at c3
  have e70 := (e 70 (by omega)).1
  refine ⟨⟨kn, k1, c1.of (by rw [e70]) (e 71 (by omega)).2, fun i hi => ?_, fun i hi t ht => ?_⟩, h2, by rw [e70]; exact h3, fun v hv => ?_, fun j hj hd => ?_, by rw [e70]; exact h6, ?_⟩
  · rw [(e 72 (by omega)).1]; exact c2 i hi
  · rw [(e kn (by unfold knO at k2; omega)).1]; exact c3 i hi t ht
  · rw [(e 74 (by omega)).1]; exact h4 v hv
  · rw [(e 75 (by omega)).1]; exact h5 j hj hd
  · rw [e70, (e 76 (by omega)).1]; exact h7
theorem ICm.fr {b a : AS} {V : Nat → List Nat} {S S' : St} (h : ICm b a V S) (e : ∀ k, 31 ≤ k → k ≤ 69 → S'.1 k = S.1 k ∧ S'.2 k = S.2 k) : ICm b a V S' := ⟨h.1, h.2.1, h.2.2.1.fr (fun k hk => (e k (by unfold FFb at hk; omega) (by unfold FFb at hk; omega)).1) (fun k hk => (e k (by unfold FFb at hk; omega) (by unfold FFb at hk; omega)).2), h.2.2.2.fr (fun k hk => (e k (by unfold FMs at hk; omega) (by unfold FMs at hk; omega)).1) (fun k hk => (e k (by unfold FMs at hk; omega) (by unfold FMs at hk; omega)).2)⟩
theorem IK.fr {b : AS} {ρ : Rs} {p : Bool} {S S' : St} (h : IK b ρ p S) (hN : NR ρ) (e : ∀ k, (16 ≤ k ∧ k ≤ 79) ∨ (95 ≤ k ∧ k < rn ρ) → S'.1 k = S.1 k ∧ S'.2 k = S.2 k) : IK b ρ p S' := by
  obtain ⟨h1, h2, h3, h4⟩ := h
  refine ⟨h1.fr (F := fun k => ¬ (16 ≤ k ∧ k ≤ 79)) (fun k hk z => z (by omega)) (fun k hk => e k (Or.inl (Classical.not_not.mp hk))), by rw [(e 70 (by omega)).1]; exact h2, h3, fun c => ?_⟩
  obtain ⟨a, V, k1, k2, k3⟩ := h4 c
  exact ⟨a, V, k1.fr (fun k q1 q2 => e k (by omega)), k2.of (fun k q1 q2 => e k (by omega)), fun z => ⟨(k3 z).1, (k3 z).2.of2 hN (fun k hk => e k (by omega))⟩⟩
section CA
variable {g : GX} {d : Nat} {ρ : Rs} {S : St} {b : AS} {p : Bool}
theorem sC_list {Q : Int32 → St → Prop} {ρ' : Rs} (hA : ∀ k, 16 ≤ k → gF g k) (hN : NR ρ) (hW : WF b) (hI : IK b ρ p S) (hρ' : prQ b p ρ = ρ') (h2 : nR b = 0 → prP b p = p → IK b ρ' p S → Q (-2) S) (h3 : nR b ≠ 0 → 1000 < (KK b).length → prP b p = p → IK b ρ' p S → Q (-3) S) (h0 : nR b ≠ 0 → (KK b).length ≤ 1000 → prP b p = true → ∀ S' a, WF a → Smp a b → (∃ V, IFb a V S') → MVd a S' → IN a ρ' S' → IK b ρ' true S' → Fr FNt S S' → Q 0 S') : CALLi g (d + 8) mX11_refusalOfList [.ref 16] ρ ρ' S Q := by
  have hrc := prQ_rc b p ρ
  have nr' : NR (prQ b p ρ) := hN.pr
  rw [hρ'] at hrc nr'
  refine eX11_refusalOfList hN.1 (ρ3 := ρ') nr'.1 (Nat.le_refl _) (Nat.le_refl _) hrc.1 hrc.2 (sC_isTold hN.1 hW hI.1 ?_)
  by_cases c1 : nR b = 0
  · have er : ρ = ρ' := by rw [← hρ']; unfold prQ; rw [if_pos c1]
    rw [if_pos c1, if_pos rfl]
    exact ⟨er, h2 c1 (by unfold prP; rw [if_pos c1]) (by rw [← er]; exact hI)⟩
  rw [if_neg c1, if_neg (by decide)]
  obtain ⟨a, V, k1, k2, k3⟩ := hI.2.2.2 c1
  obtain ⟨f1, f2, f3, f4⟩ := k1
  have hRa : nR a ≠ 0 := by rw [← f2.1]; exact c1
  have eK := KK_smp f2
  have hcap := KK_22 hW c1
  rcases Nat.lt_or_ge 1000 (KK b).length with c2 | c2
  · refine sC_size hN.1 f1 hRa f3 ?_
    rw [← eK]
    have er : ρ = ρ' := by rw [← hρ']; unfold prQ; rw [if_neg c1, if_pos c2]
    rw [if_neg (show ¬ lN (KK b).length ≤ (1000 : Int64) from fun z => by have := (lNle (n := 1000) (by omega) (by omega)).mp z; omega)]
    exact ⟨er, h3 c1 c2 (by unfold prP; rw [if_neg c1, if_pos c2]) (by rw [← er]; exact hI)⟩
  have c2 : ¬ 1000 < (KK b).length := Nat.not_lt.mpr c2
  refine sC_size hN.1 f1 hRa f3 ?_
  rw [← eK]
  rw [if_pos (show lN (KK b).length ≤ (1000 : Int64) from (lNle (n := 1000) (by omega) (by omega)).mpr (by omega))]
  have eP : prP b p = true := by unfold prP; rw [if_neg c1, if_neg c2]
  have hn : (KK a).length ≤ 1000 := by rw [← eK]; omega
  cases p with
  | true =>
    have er : ρ = ρ' := by rw [← hρ']; unfold prQ; rw [if_neg c1, if_neg c2, if_pos rfl]
    refine eX6_prepare hN.1 hrc.1 hrc.2 (fun k hk => hA k (by simp at hk; omega)) ?_
    rw [if_neg (by rw [hI.2.1]; decide)]
    refine ⟨er, rfl, h0 c1 (by omega) eP S a f1 f2 ⟨V, f3⟩ k2 (by rw [← er]; exact (k3 rfl).2) (by rw [← er]; exact hI) (Fr.rf S)⟩
  | false =>
    have er : psh 0 (FNo a (KK a).length) ρ = ρ' := by rw [← hρ']; unfold prQ; rw [if_neg c1, if_neg c2, if_neg (by decide), eK, FNo_smp f2]
    refine sC_prepare1 hA hN f1 hRa hn f3 k2 hI.2.1 er (fun S1 i1 e2 fr => ⟨rfl, ?_⟩)
    have f3' : IFb a V S1 := f3.fr (fun k hk => (fr k (fun z => by unfold FFb at hk; unfold FNt at z; omega)).1) (fun k hk => (fr k (fun z => by unfold FFb at hk; unfold FNt at z; omega)).2)
    have k2' : MVd a S1 := k2.of (fun k h1 h2 => fr k (by unfold FNt; omega))
    refine h0 c1 (by omega) eP S1 a f1 f2 ⟨V, f3'⟩ k2' i1 ?_ fr
    refine ⟨hI.1.fr (F := FNt) (fun k hk z => by unfold FNt at z; omega) fr, e2, fun z => absurd z c1, fun _ => ⟨a, V, ?_, k2', fun _ => ⟨hn, i1⟩⟩⟩
    exact ICm.fr ⟨f1, f2, f3, f4⟩ (fun k q1 q2 => fr k (by unfold FNt; omega))
theorem sC_rankQ {Q : Int32 → St → Prop} {ρ' : Rs} {x : Int32} (hA : ∀ k, 16 ≤ k → gF g k) (hN : NR ρ) (hW : WF b) (hI : IK b ρ p S) (hρ' : prQ b p ρ = ρ') (h2 : (nR b = 0 ∨ (nR b ≠ 0 ∧ (KK b).length ≤ 1000 ∧ ¬ vp_in x (KK b).length)) → ∀ S', IK b ρ' (prP b p) S' → Fr FNt S S' → Q (-2) S') (h3 : nR b ≠ 0 → 1000 < (KK b).length → IK b ρ' (prP b p) S → Q (-3) S) (h0 : nR b ≠ 0 → (KK b).length ≤ 1000 → prP b p = true → ∀ i S' a, i < (KK b).length → x = nI i → WF a → Smp a b → (∃ V, IFb a V S') → MVd a S' → IN a ρ' S' → IK b ρ' true S' → Fr FNt S S' → Q 0 S') : CALLi g (d + 9) mX11_refusalOfRank [.ref 16, .int x] ρ ρ' S Q := by
  have hrc := prQ_rc b p ρ
  have nr' : NR (prQ b p ρ) := hN.pr
  rw [hρ'] at hrc nr'
  refine eX11_refusalOfRank hN.1 (ρ1 := ρ') nr'.1 (Nat.le_refl _) (Nat.le_refl _) hrc.1 hrc.2 (sC_list hA hN hW hI hρ' (fun c e i => ?_) (fun c1 c2 e i => ?_) (fun c1 c2 e S1 a f1 f2 ⟨V, f3⟩ k2 i1 ik fr => ?_))
  · rw [if_neg (by decide)]
    exact ⟨rfl, h2 (Or.inl c) S (by rw [e]; exact i) (Fr.rf S)⟩
  · rw [if_neg (by decide)]
    exact ⟨rfl, h3 c1 c2 (by rw [e]; exact i)⟩
  · rw [if_pos rfl]
    have hRa : nR a ≠ 0 := by rw [← f2.1]; exact c1
    by_cases c : x < 0
    · rw [if_pos c]
      refine ⟨rfl, h2 (Or.inr ⟨c1, c2, fun z => ?_⟩) S1 (by rw [e]; exact ik) fr⟩
      obtain ⟨i, hi, ei⟩ := vp_in_of z (by omega)
      rw [ei] at c
      exact nI_nlt (b := 0) (by omega) (by omega) c
    rw [if_neg c]
    obtain ⟨i, hi, ei⟩ := nI_of c
    rcases Nat.lt_or_ge i (KK b).length with cl | cl
    · refine sC_size nr'.1 f1 hRa f3 ?_
      rw [ei, nI_l hi, ← KK_smp f2]
      rw [if_pos ((lNlt (by omega) (by omega)).mpr cl)]
      exact ⟨rfl, h0 c1 c2 e i S1 a cl ei f1 f2 ⟨V, f3⟩ k2 i1 ik fr⟩
    · refine sC_size nr'.1 f1 hRa f3 ?_
      rw [ei, nI_l hi, ← KK_smp f2]
      rw [if_neg (fun z => absurd ((lNlt (by omega) (by omega)).mp z) (Nat.not_lt.mpr cl))]
      refine ⟨rfl, h2 (Or.inr ⟨c1, c2, fun z => ?_⟩) S1 (by rw [e]; exact ik) fr⟩
      obtain ⟨j, hj, ej⟩ := vp_in_of z (by omega)
      have : i = j := (nI_eq hi (by omega)).mp (ei.symm.trans ej)
      omega
/-- .. with the same references and the net as it is -/
theorem IK.net {ρ' : Rs} {a : AS} {S1 S2 : St} (h : IK b ρ' true S1) (hR : nR b ≠ 0) (ha : Smp a b) (hn : (KK b).length ≤ 1000) (hi : IN a ρ' S2) (e2 : S2.1 70 2 = S1.1 70 2) (fr : Fr FNt S1 S2) : IK b ρ' true S2 := by
  obtain ⟨h1, h2, h3, h4⟩ := h
  refine ⟨h1.fr (F := FNt) (fun k hk z => by unfold FNt at z; omega) fr, by rw [e2]; exact h2, h3, fun c => ?_⟩
  obtain ⟨a', V, k1, k2, k3⟩ := h4 c
  have hs : Smp a a' := by
    obtain ⟨x1, x2, x3, x4⟩ := ha
    obtain ⟨y1, y2, y3, y4⟩ := k1.2.1
    exact ⟨y1.symm.trans x1, y2.symm.trans x2, y3.symm.trans x3, fun y => (y4.1 y).symm.trans (x4.1 y), fun x => (y4.2 x).symm.trans (x4.2 x)⟩
  refine ⟨a', V, k1.fr (fun k q1 q2 => fr k (by unfold FNt; omega)), k2.of (fun k q1 q2 => fr k (by unfold FNt; omega)), fun _ => ⟨(k3 rfl).1, ?_⟩⟩
  unfold IN CN hdA at hi ⊢
  have eN : NB a' = NB a := funext (NB_smp hs)
  have eF : FNo a' = FNo a := funext (FNo_smp hs)
  rw [KK_smp hs, eN, eF, adjS_smp hs, adjT_smp hs]
  exact hi
theorem sC_rankNow {Q : Int32 → St → Prop} {a : AS} {V : Nat → List Nat} (hρ : Ok ρ) (hW : WF b) (hI : IB b S) (hR : nR b ≠ 0) (f1 : WF a) (f2 : Smp a b) (f3 : IFb a V S) (h : Q (nI (rkN b)) S) : CALLi g (d + 6) mX11_rankNow [.ref 16] ρ ρ S Q := by
  have hRa : nR a ≠ 0 := by rw [← f2.1]; exact hR
  refine eX11_rankNow hρ ?_
  rw [hI.2.2.2.2.2.2.2.2.2.2.2.1]
  refine sC_rankOf hρ f1 hRa f3 (now_KK hW hR f2).1 ?_
  rw [lN_i, ← rkK_smp f2]
  exact h
end CA
