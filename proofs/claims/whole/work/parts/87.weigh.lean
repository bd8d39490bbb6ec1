-- 4: all are weighed; 5: all are measured
def sml (f : Nat → Nat) : List Nat → Nat
  | [] => 0
  | p :: L => f p + sml f L
theorem sml_app (f : Nat → Nat) : ∀ L M, sml f (L ++ M) = sml f L + sml f M
  | [], M => by show sml f M = 0 + sml f M; omega
  | p :: L, M => by
    show f p + sml f (L ++ M) = f p + sml f L + sml f M
    rw [sml_app f L M]
    omega
theorem sml_1 (f : Nat → Nat) (p : Nat) : sml f [p] = f p := Nat.add_zero _
def wK (a : AS) (p : Nat) : Nat := wgN (unp p) (nR a)
/-- the first of the greatest, of the least -/
def FM (f : Nat → Nat) (L : List Nat) (i : Nat) : Prop := i < L.length ∧ (∀ j, j < L.length → f (L.getD j 0) ≤ f (L.getD i 0)) ∧ ∀ j, j < i → f (L.getD j 0) < f (L.getD i 0)
def FN (f : Nat → Nat) (L : List Nat) (i : Nat) : Prop := i < L.length ∧ (∀ j, j < L.length → f (L.getD i 0) ≤ f (L.getD j 0)) ∧ ∀ j, j < i → f (L.getD i 0) < f (L.getD j 0)
theorem len1 (L : List Nat) (p : Nat) : (L ++ [p]).length = L.length + 1 := by rw [List.length_append]; rfl
theorem FM_nil (f : Nat → Nat) (p : Nat) : FM f ([] ++ [p]) 0 := by
  refine ⟨by show 0 < 1; omega, fun j hj => ?_, fun j hj => absurd hj (by omega)⟩
  have : j < 1 := hj
  rw [show j = 0 by omega]
  exact Nat.le_refl _
theorem FN_nil (f : Nat → Nat) (p : Nat) : FN f ([] ++ [p]) 0 := by
  refine ⟨by show 0 < 1; omega, fun j hj => ?_, fun j hj => absurd hj (by omega)⟩
  have : j < 1 := hj
  rw [show j = 0 by omega]
  exact Nat.le_refl _
theorem FM_keep {f : Nat → Nat} {L : List Nat} {i p : Nat} (h : FM f L i) (hp : f p ≤ f (L.getD i 0)) : FM f (L ++ [p]) i := by
  obtain ⟨h1, h2, h3⟩ := h
  refine ⟨by rw [len1]; omega, fun j hj => ?_, fun j hj => ?_⟩
  · rw [len1] at hj
    rw [getD_l h1]
    by_cases c : j = L.length
    · rw [c, getD_e]; exact hp
    · rw [getD_l (by omega)]; exact h2 j (by omega)
  · rw [getD_l h1, getD_l (by omega)]
    exact h3 j hj
theorem FM_new {f : Nat → Nat} {L : List Nat} {i p : Nat} (h : FM f L i) (hp : f (L.getD i 0) < f p) : FM f (L ++ [p]) L.length := by
  obtain ⟨h1, h2, h3⟩ := h
  refine ⟨by rw [len1]; omega, fun j hj => ?_, fun j hj => ?_⟩
  · rw [len1] at hj
    rw [getD_e]
    by_cases c : j = L.length
    · rw [c, getD_e]; exact Nat.le_refl _
    · rw [getD_l (by omega)]
      have := h2 j (by omega)
      omega
  · rw [getD_e, getD_l hj]
    have := h2 j hj
    omega
theorem FN_keep {f : Nat → Nat} {L : List Nat} {i p : Nat} (h : FN f L i) (hp : f (L.getD i 0) ≤ f p) : FN f (L ++ [p]) i := by
  obtain ⟨h1, h2, h3⟩ := h
  refine ⟨by rw [len1]; omega, fun j hj => ?_, fun j hj => ?_⟩
  · rw [len1] at hj
    rw [getD_l h1]
    by_cases c : j = L.length
    · rw [c, getD_e]; exact hp
    · rw [getD_l (by omega)]; exact h2 j (by omega)
  · rw [getD_l h1, getD_l (by omega)]
    exact h3 j hj
theorem FN_new {f : Nat → Nat} {L : List Nat} {i p : Nat} (h : FN f L i) (hp : f p < f (L.getD i 0)) : FN f (L ++ [p]) L.length := by
  obtain ⟨h1, h2, h3⟩ := h
  refine ⟨by rw [len1]; omega, fun j hj => ?_, fun j hj => ?_⟩
  · rw [len1] at hj
    rw [getD_e]
    by_cases c : j = L.length
    · rw [c, getD_e]; exact Nat.le_refl _
    · rw [getD_l (by omega)]
      have := h2 j (by omega)
      omega
  · rw [getD_e, getD_l hj]
    have := h2 j hj
    omega
theorem FM_un {f : Nat → Nat} {L : List Nat} {i j : Nat} (h : FM f L i) (k : FM f L j) : i = j := by
  rcases Nat.lt_trichotomy i j with c | c | c
  · have h1 := k.2.2 i c
    have h2 := h.2.1 j k.1
    omega
  · exact c
  · have h1 := h.2.2 j c
    have h2 := k.2.1 i h.1
    omega
theorem FN_un {f : Nat → Nat} {L : List Nat} {i j : Nat} (h : FN f L i) (k : FN f L j) : i = j := by
  rcases Nat.lt_trichotomy i j with c | c | c
  · have h1 := k.2.2 i c
    have h2 := h.2.1 j k.1
    omega
  · exact c
  · have h1 := h.2.2 j c
    have h2 := k.2.1 i h.1
    omega
theorem KK_getD {a : AS} {L : List Nat} (h : L <+: KK a) {i : Nat} (hi : i < L.length) : L.getD i 0 ∈ KK a := by
  refine h.subset ?_
  rw [List.getD_eq_getElem?_getD, List.getElem?_eq_getElem hi]
  exact List.getElem_mem hi
theorem wK_lt {a : AS} (hW : WF a) (hR : nR a ≠ 0) {p : Nat} (hp : p ∈ KK a) : wK a p < 2 ^ 63 := by
  obtain ⟨-, p2, -⟩ := KK_tab hW hR hp
  exact wgN_lt ((hW.told hR).sm p2 hW.le.1)
section WG
variable {g : GX} {d : Nat} {ρ : Rs} {S : St} {a : AS}
def P4f (a : AS) (L : List Nat) (S : St) : Prop := S.1 80 14 = 0 ∧ S.2 80 22 = lN (sml (wK a) L) ∧ (L ≠ [] → (∃ i, FM (wK a) L i ∧ S.2 80 23 = lN (wK a (L.getD i 0)) ∧ S.2 80 25 = lN i) ∧ ∃ i, FN (wK a) L i ∧ S.2 80 24 = lN (wK a (L.getD i 0)) ∧ S.2 80 26 = lN i)
theorem sM_weighs {Q : St → Prop} (hρ : Ok ρ) (hF : ∀ k ∈ ([80] : List Nat), gF g k) (hW : WF a) (hR : nR a ≠ 0) (hI : IM a S) {p : Nat} {L : List Nat} (hp : (L ++ [p]) <+: KK a) (hi : ∀ y x, y < nR a → x < nC a → S.1 85 (y * nC a + x) = nI (unp p y x)) (h15 : S.2 80 15 = lN L.length) (hP : P4f a L S) (h : ∀ S', S'.1 = S.1 → S'.2 80 15 = lN L.length → P4f a (L ++ [p]) S' → Q S') : CALLv g (d + 2) mX12_weighs [.ref 80] ρ ρ S Q := by
  have pm := pre_mem hp
  have hL : L <+: KK a := List.IsPrefix.trans (List.prefix_append _ _) hp
  have hlen : L.length < 2 ^ 64 := by
    have h1 := hp.length_le
    have h2 := KK_len a
    rw [len1] at h1
    omega
  obtain ⟨p1, p2, -⟩ := KK_tab hW hR pm
  obtain ⟨P1, P2, P3⟩ := hP
  have wp := wK_lt hW hR pm
  refine eX12_weighs hρ hF ?_
  refine sM_weightOf hρ hW hR hI p1 p2 hi ?_
  show if S.2 80 15 = 0 then _ else _
  rw [show wgN (unp p) (nR a) = wK a p from rfl, h15, P2, lN_add, show sml (wK a) L + wK a p = sml (wK a) (L ++ [p]) by rw [sml_app, sml_1]]
  have e0 : lN L.length = 0 ↔ L = [] := by
    constructor
    · intro z
      exact List.length_eq_zero_iff.mp ((lNeq (n := 0) hlen (by omega)).mp z)
    · intro z; rw [z]; rfl
  by_cases c : L = []
  · rw [if_pos (e0.mpr c)]
    refine eX12_weighs_46 hρ hF ?_
    rw [if_pos (by simp [setL_at]; rw [h15]; exact e0.mpr c)]
    refine h _ rfl (by simp [setL_at]; exact h15) ⟨P1, by simp [setL_at], fun _ => ⟨⟨0, ?_, ?_, ?_⟩, 0, ?_, ?_, ?_⟩⟩
    · rw [c]; exact FM_nil _ _
    · simp [setL_at, c]
    · simp [setL_at, c]
    · rw [c]; exact FN_nil _ _
    · simp [setL_at, c]
    · simp [setL_at]; rw [h15, c]; rfl
  · rw [if_neg (fun z => c (e0.mp z))]
    obtain ⟨⟨i, i1, i2, i3⟩, j, j1, j2, j3⟩ := P3 c
    have wi := wK_lt hW hR (KK_getD hL i1.1)
    have wj := wK_lt hW hR (KK_getD hL j1.1)
    rw [i2]
    -- behind the greatest
    have mins : ∀ S1 : St, S1.1 = S.1 → S1.2 80 15 = lN L.length → S1.2 80 22 = lN (sml (wK a) (L ++ [p])) → (∃ i, FM (wK a) (L ++ [p]) i ∧ S1.2 80 23 = lN (wK a ((L ++ [p]).getD i 0)) ∧ S1.2 80 25 = lN i) → S1.2 80 24 = S.2 80 24 → S1.2 80 26 = S.2 80 26 → AW g ρ (QV Q) (d + 1 + 1) mX12_weighs 46 [(0, .ref 80), (1, .long (lN (wK a p)))] [] ρ S1 := by
      intro S1 s1 s2 s3 s4 s5 s6
      refine eX12_weighs_46 hρ hF ?_
      rw [s2, if_neg (fun z => c (e0.mp z)), s5, j2]
      by_cases cj : wK a (L.getD j 0) ≤ wK a p
      · rw [if_pos ((lNle wj wp).mpr cj)]
        refine h S1 s1 s2 ⟨by rw [s1]; exact P1, s3, fun _ => ⟨s4, j, FN_keep j1 cj, ?_, ?_⟩⟩
        · rw [s5, j2, getD_l j1.1]
        · rw [s6, j3]
      · rw [if_neg (fun z => cj ((lNle wj wp).mp z))]
        obtain ⟨i, k1, k2, k3⟩ := s4
        refine h _ (by rw [setL_I, setL_I]; exact s1) (by simp [setL_at]; exact s2) ⟨by rw [setL_I, setL_I, s1]; exact P1, by simp [setL_at]; exact s3, fun _ => ⟨⟨i, k1, by simp [setL_at]; rw [k2]; simp, by simp [setL_at]; exact k3⟩, L.length, FN_new j1 (by omega), ?_, ?_⟩⟩
        · rw [getD_e]; simp [setL_at]
        · simp [setL_at]
    by_cases ci : wK a p ≤ wK a (L.getD i 0)
    · rw [if_pos ((lNle wp wi).mpr ci)]
      refine mins _ rfl (by simp [setL_at]; exact h15) (by simp [setL_at]) ⟨i, FM_keep i1 ci, ?_, ?_⟩ (by simp [setL_at]) (by simp [setL_at])
      · rw [getD_l i1.1, setL_at, if_neg (by omega)]; exact i2
      · rw [setL_at, if_neg (by omega)]; exact i3
    · rw [if_neg (fun z => ci ((lNle wp wi).mp z))]
      refine mins _ rfl (by simp [setL_at]; exact h15) (by simp [setL_at]) ⟨L.length, FM_new i1 (by omega), ?_, ?_⟩ (by simp [setL_at]) (by simp [setL_at])
      · rw [getD_e]; simp [setL_at]
      · simp [setL_at]
theorem sM_weighsAll {Q : St → Prop} (hρ : Ok ρ) (hF : ∀ k ∈ ([80, 85, 86, 87] : List Nat), gF g k) (hW : WF a) (hR : nR a ≠ 0) (hI : IM a S) (h : ∀ S' i j, IM a S' → S'.2 80 22 = lN (sml (wK a) (KK a)) → FM (wK a) (KK a) i → S'.2 80 25 = lN i → FN (wK a) (KK a) j → S'.2 80 26 = lN j → Q S') : CALLv g (d + 22) mX12_weighsAll [.ref 80] ρ ρ S Q := by
  have ht := hW.told hR
  have hcT := ht.2.2.2.2.2.2.2.2.2.1
  have hF1 : ∀ k ∈ ([80] : List Nat), gF g k := fun k hk => hF k (by simp at hk; simp [hk])
  refine eX12_weighsAll hρ hF1 ?_
  refine sM_goesAll (D := d + 3) (x1 := nI 4) (J := JT a 4 (P4f a)) hρ hF hW hR (fun e => ?_) (JT.z (hI.lng _ _ _) ?_) (fun S' M k1 k2 k3 => ?_)
  · have st : ∀ L S S', P4f a L S → S'.1 80 = S.1 80 → S'.2 80 = S.2 80 → P4f a L S' := by
      intro L S S' h e1 e2
      unfold P4f
      rw [e1, e2]
      exact h
    refine JT.c (fun L S S' h f => st L S S' h (f 80 (by omega)).1 (f 80 (by omega)).2) (fun L S S' h _ f => st L S S' h (f 80 (by omega)).1 (f 80 (by omega)).2) (fun L p S Q hI2 h13 h15 hP ho hi hp hQ => ?_)
    rw [show d + 3 + e = (d + e + 2) + 1 by omega]
    refine eX12_visits hρ hF1 ?_
    rw [h13, if_neg (by decide), if_neg (by decide), if_neg (by decide), if_pos (show nI 4 = (4 : Int32) from rfl)]
    refine sM_weighs hρ hF1 hW hR hI2 hp hi h15 hP (fun S' q1 q2 q3 => ?_)
    refine hQ S' (hI2.of (by rw [q1]) (by rw [q1]) (by rw [q1]) (by rw [q1]) (by rw [q1]) (by rw [q1])) (by rw [q1]; exact h13) q2 ?_ (by rw [q1]) (by rw [q1]) (by rw [q1])
    obtain ⟨r1, r2, r3⟩ := q3
    obtain ⟨⟨i, i1, i2, i3⟩, j, j1, j2, j3⟩ := r3 (by simp)
    exact ⟨r1, by rw [setL_at, if_neg (by omega)]; exact r2, fun _ => ⟨⟨i, i1, by rw [setL_at, if_neg (by omega)]; exact i2, by rw [setL_at, if_neg (by omega)]; exact i3⟩, j, j1, by rw [setL_at, if_neg (by omega)]; exact j2, by rw [setL_at, if_neg (by omega)]; exact j3⟩⟩
  · refine ⟨?_, ?_, fun z => absurd rfl z⟩
    · rw [setL_I, setL_I, setI_at, if_pos ⟨rfl, rfl⟩]
    · simp [setL_at, setI_L]; rfl
  · rw [k3 k2.2.2.2.1] at k2
    have hne : KK a ≠ [] := fun z => by
      have := (KK_of hW hR hcT (Sam.rf _)).1
      rw [z] at this
      exact absurd this (by simp)
    obtain ⟨⟨i, i1, i2, i3⟩, j, j1, j2, j3⟩ := k2.2.2.2.2.2 hne
    exact h S' i j k2.1 k2.2.2.2.2.1 i1 i3 j1 j3
-- 5
def sat (a : AS) (w b p : Nat) : Bool := if w = 0 then decide (mea a 0 (unp p) ≤ b) else decide (b ≤ mea a w (unp p))
def P5f (a : AS) (w b : Nat) (L : List Nat) (S : St) : Prop := S.1 80 14 = 0 ∧ S.1 80 27 = nI w ∧ S.2 80 28 = lN b ∧ S.2 80 22 = lN (sml (wK a) L) ∧ S.2 80 29 = lN (L.filter (sat a w b)).length ∧ S.2 80 30 = lN (sml (wK a) (L.filter (sat a w b)))
theorem sM_measures {Q : St → Prop} (hρ : Ok ρ) (hF : ∀ k ∈ ([80] : List Nat), gF g k) (hW : WF a) (hR : nR a ≠ 0) (hI : IM a S) {p w b : Nat} {L : List Nat} (hw : w < 4) (hb : b < 2 ^ 63) (pm : p ∈ KK a) (hi : ∀ y x, y < nR a → x < nC a → S.1 85 (y * nC a + x) = nI (unp p y x)) (hP : P5f a w b L S) (h : ∀ S', S'.1 = S.1 → S'.2 80 15 = S.2 80 15 → P5f a w b (L ++ [p]) S' → Q S') : CALLv g (d + 4) mX12_measures [.ref 80] ρ ρ S Q := by
  obtain ⟨p1, p2, -⟩ := KK_tab hW hR pm
  obtain ⟨P1, P2, P3, P4, P5, P6⟩ := hP
  have ml := mea_lt hW hR (w := w) p1 p2
  refine eX12_measures hρ hF ?_
  rw [P2]
  refine sM_measureOf hρ hW hR hI hw p1 p2 hi (sM_weightOf hρ hW hR hI p1 p2 hi ?_)
  show if S.1 80 27 = 0 then _ else _
  rw [show wgN (unp p) (nR a) = wK a p from rfl, P2, P3, P4, lN_add, show sml (wK a) L + wK a p = sml (wK a) (L ++ [p]) by rw [sml_app, sml_1]]
  have yes : sat a w b p = true → AW g ρ (QV Q) (d + 3 + 1) mX12_measures 62 [(0, .ref 80), (3, .long (lN (wK a p)))] [.int 1] ρ (setL S 80 22 (lN (sml (wK a) (L ++ [p])))) := by
    intro hs
    refine eX12_measures_62 hρ hF ?_
    rw [if_neg (by decide), if_neg (by decide)]
    have e : (L ++ [p]).filter (sat a w b) = L.filter (sat a w b) ++ [p] := by rw [List.filter_append]; simp [hs]
    refine h _ rfl (by simp [setL_at]) ⟨P1, P2, by simp [setL_at]; exact P3, by simp [setL_at], ?_, ?_⟩
    · rw [e, len1]; simp [setL_at]; rw [P5]; exact lN_1 _
    · rw [e]; simp [setL_at]; rw [P6, lN_add, sml_app, sml_1]
  have no : sat a w b p = false → AW g ρ (QV Q) (d + 3 + 1) mX12_measures 62 [(0, .ref 80), (3, .long (lN (wK a p)))] [.int 0] ρ (setL S 80 22 (lN (sml (wK a) (L ++ [p])))) := by
    intro hs
    refine eX12_measures_62 hρ hF ?_
    rw [if_pos rfl, if_pos rfl]
    have e : (L ++ [p]).filter (sat a w b) = L.filter (sat a w b) := by rw [List.filter_append]; simp [hs]
    refine h _ rfl (by simp [setL_at]) ⟨P1, P2, by simp [setL_at]; exact P3, by simp [setL_at], ?_, ?_⟩
    · rw [e]; simp [setL_at]; exact P5
    · rw [e]; simp [setL_at]; exact P6
  by_cases cw : w = 0
  · rw [if_pos (show nI w = (0 : Int32) by rw [cw]; rfl)]
    by_cases cb : b < mea a w (unp p)
    · rw [if_pos ((lNlt hb ml).mpr cb)]
      refine no ?_
      unfold sat
      rw [if_pos cw, ← cw]
      exact decide_eq_false (by omega)
    · rw [if_neg (fun z => cb ((lNlt hb ml).mp z))]
      refine yes ?_
      unfold sat
      rw [if_pos cw, ← cw]
      exact decide_eq_true (by omega)
  · rw [if_neg (show ¬ nI w = (0 : Int32) from fun z => cw ((nI_eq (b := 0) (by omega) (by omega)).mp z))]
    by_cases cb : mea a w (unp p) < b
    · rw [if_pos ((lNlt ml hb).mpr cb)]
      refine no ?_
      unfold sat
      rw [if_neg cw]
      exact decide_eq_false (by omega)
    · rw [if_neg (fun z => cb ((lNlt ml hb).mp z))]
      refine yes ?_
      unfold sat
      rw [if_neg cw]
      exact decide_eq_true (by omega)
theorem sM_laysNow {Q : St → Prop} (hρ : Ok ρ) (hF : ∀ k ∈ ([85] : List Nat), gF g k) (hW : WF a) (hI : IM a S) (h : ∀ S', S'.2 = S.2 → (∀ k, k ≠ 85 → S'.1 k = S.1 k) → (∀ y x, y < nR a → x < nC a → S'.1 85 (y * nC a + x) = nI (cel a y x)) → Q S') : CALLv g (d + 1) mX12_laysNow [.ref 80] ρ ρ S Q := by
  have hl := hW.le
  have e2 := mul44 hl.1 hl.2.1
  refine eX12_laysNow hρ ?_
  have key : ∀ m k S1, k + m = nR a * nC a → S1.2 = S.2 → (∀ k, k ≠ 85 → S1.1 k = S.1 k) → (∀ j, j < k → S1.1 85 j = nI (flt (nC a) (cel a) j)) → AW g ρ (QV Q) (d + 1) mX12_laysNow 2 [(0, .ref 80), (1, .int (nI k))] [] ρ S1 := by
    intro m
    induction m with
    | zero =>
      intro k S1 hk j1 j2 j3
      have hI1 : IM a S1 := hI.of (by rw [j2 80 (by decide)]) (by rw [j2 80 (by decide)]) (by rw [j2 80 (by decide)]) (j2 81 (by decide)) (j2 83 (by decide)) (j2 84 (by decide))
      refine eX12_laysNow_2 hρ hF (sM_many hρ hI1 ?_)
      rw [if_pos (nI_le (by omega) (by omega))]
      refine h S1 j1 j2 (fun y x hy hx => ?_)
      have := idx_lt hy hx
      rw [j3 _ (by omega), flt_at _ hx]
    | succ m ih =>
      intro k S1 hk j1 j2 j3
      have hI1 : IM a S1 := hI.of (by rw [j2 80 (by decide)]) (by rw [j2 80 (by decide)]) (by rw [j2 80 (by decide)]) (j2 81 (by decide)) (j2 83 (by decide)) (j2 84 (by decide))
      refine eX12_laysNow_2 hρ hF (sM_many hρ hI1 ?_)
      have e3 : (5 : Int32) + nI k = nI (5 + k) := nI_add 5 _
      rw [if_neg (nI_ge (by omega) (by omega)), e3, nI_clamp (show 5 + k < 2 ^ 31 by omega), nI_clamp (show k < 2 ^ 31 by omega), hI1.2.2.2.2.2.2.2.2.2.1 k (by omega), nI_1]
      refine ⟨vp_in_nI (by omega) (by omega), vp_in_nI (by omega) (by omega), ?_⟩
      refine ih (k + 1) _ (by omega) (by rw [setI_L]; exact j1) (fun j hj => by rw [setI_ne _ _ _ hj]; exact j2 j hj) (fun j hj => ?_)
      rw [setI_at]
      by_cases q : j = k
      · rw [if_pos ⟨rfl, q⟩, q]
      · rw [if_neg (fun z => q z.2)]
        exact j3 j (by omega)
  exact key (nR a * nC a) 0 S (by omega) rfl (fun _ _ => rfl) (fun j hj => absurd hj (by omega))
theorem sM_measuresAll {Q : St → Prop} (hρ : Ok ρ) (hF : ∀ k ∈ ([80, 85, 86, 87] : List Nat), gF g k) (hW : WF a) (hR : nR a ≠ 0) (hI : IM a S) {w : Nat} (hw : w < 4) (h : ∀ S', IM a S' → S'.2 80 22 = lN (sml (wK a) (KK a)) → S'.2 80 29 = lN ((KK a).filter (sat a w (mea a w (cel a)))).length → S'.2 80 30 = lN (sml (wK a) ((KK a).filter (sat a w (mea a w (cel a))))) → Q S') : CALLv g (d + 24) mX12_measuresAll [.ref 80, .int (nI w)] ρ ρ S Q := by
  have ht := hW.told hR
  have hcT := ht.2.2.2.2.2.2.2.2.2.1
  have hF1 : ∀ k ∈ ([80] : List Nat), gF g k := fun k hk => hF k (by simp at hk; simp [hk])
  have hF5 : ∀ k ∈ ([85] : List Nat), gF g k := fun k hk => hF k (by simp at hk; simp [hk])
  have ml := mea_lt hW hR (w := w) hcT (Sam.rf _)
  refine eX12_measuresAll hρ hF1 ?_
  refine sM_laysNow hρ hF5 hW hI (fun S1 s1 s2 s3 => ?_)
  have hI1 : IM a S1 := hI.of (by rw [s2 80 (by decide)]) (by rw [s2 80 (by decide)]) (by rw [s2 80 (by decide)]) (s2 81 (by decide)) (s2 83 (by decide)) (s2 84 (by decide))
  have hI2 : IM a (setI S1 80 27 (nI w)) := hI1.fld _ (by omega)
  refine sM_measureOf hρ hW hR hI2 hw hcT (Sam.rf _) (fun y x hy hx => by rw [setI_ne _ _ _ (by decide)]; exact s3 y x hy hx) ?_
  refine sM_goesAll (D := d + 5) (x1 := nI 5) (J := JT a 5 (P5f a w (mea a w (cel a)))) hρ hF hW hR (fun e => ?_) (JT.z ((((hI2.lng _ _ _).lng _ _ _).lng _ _ _).lng _ _ _) ?_) (fun S' M k1 k2 k3 => ?_)
  · have st : ∀ L S S', P5f a w (mea a w (cel a)) L S → S'.1 80 = S.1 80 → S'.2 80 = S.2 80 → P5f a w (mea a w (cel a)) L S' := by
      intro L S S' h e1 e2
      unfold P5f
      rw [e1, e2]
      exact h
    refine JT.c (fun L S S' h f => st L S S' h (f 80 (by omega)).1 (f 80 (by omega)).2) (fun L S S' h _ f => st L S S' h (f 80 (by omega)).1 (f 80 (by omega)).2) (fun L p S Q hI2 h13 h15 hP ho hi hp hQ => ?_)
    rw [show d + 5 + e = (d + e + 4) + 1 by omega]
    refine eX12_visits hρ hF1 ?_
    rw [h13, if_neg (by decide), if_neg (by decide), if_neg (by decide), if_neg (by decide), if_pos (show nI 5 = (5 : Int32) from rfl)]
    refine sM_measures hρ hF1 hW hR hI2 hw ml (pre_mem hp) hi hP (fun S' q1 q2 q3 => ?_)
    refine hQ S' (hI2.of (by rw [q1]) (by rw [q1]) (by rw [q1]) (by rw [q1]) (by rw [q1]) (by rw [q1])) (by rw [q1]; exact h13) (by rw [q2]; exact h15) ?_ (by rw [q1]) (by rw [q1]) (by rw [q1])
    obtain ⟨r1, r2, r3, r4, r5, r6⟩ := q3
    exact ⟨r1, r2, by rw [setL_at, if_neg (by omega)]; exact r3, by rw [setL_at, if_neg (by omega)]; exact r4, by rw [setL_at, if_neg (by omega)]; exact r5, by rw [setL_at, if_neg (by omega)]; exact r6⟩
  · refine ⟨?_, ?_, ?_, ?_, ?_, ?_⟩
    · rw [setL_I, setL_I, setI_at, if_pos ⟨rfl, rfl⟩]
    · simp [setL_I, setI_at]
    · simp [setL_at, setI_L]
    · simp [setL_at, setI_L]; rfl
    · simp [setL_at, setI_L]; rfl
    · simp [setL_at, setI_L]; rfl
  · rw [k3 k2.2.2.2.1] at k2
    exact h S' k2.1 k2.2.2.2.2.2.2.1 k2.2.2.2.2.2.2.2.1 k2.2.2.2.2.2.2.2.2
end WG
