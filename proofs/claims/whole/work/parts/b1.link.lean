-- WHO IS NEAR WHOM, laid by the class
def nlen (ρ : Rs) : Nat := match rR ρ 70 6 with
  | some kn => (match shp ρ kn with | .inr q => q.2 | .inl _ => 0)
  | none => 0
def gl (m : Nat) : Nat := if 2 * m < 72000 then 2 * m else 72000
/-- a longer row -/
def grw (ρ : Rs) : Rs := setR (newR ρ (gl (nlen ρ)) (gl (nlen ρ))) 70 6 (some (rn ρ))
/-- room for number m -/
def ens (m : Nat) (ρ : Rs) : Rs := if m < nlen ρ then ρ else grw ρ
/-- t put behind m -/
def psh : Nat → Nat → Rs → Rs
  | _, 0, ρ => ρ
  | m, t + 1, ρ => psh (m + 1) t (ens m ρ)
def NR (ρ : Rs) : Prop := Ok ρ ∧ (∃ kn, rR ρ 70 6 = some kn ∧ knO kn ∧ kn < rn ρ ∧ shp ρ kn = .inr (0, nlen ρ)) ∧ 256 ≤ nlen ρ ∧ nlen ρ ≤ 72000 ∧ ∃ ka kb, rR ρ 70 16 = some ka ∧ rR ρ 70 17 = some kb ∧ ((ka = 78 ∧ kb = 79) ∨ (ka = 79 ∧ kb = 78))
theorem gl_b {m : Nat} (h1 : 256 ≤ m) (h2 : m ≤ 72000) : 256 ≤ gl m ∧ gl m ≤ 72000 ∧ (m < 72000 → m < gl m) ∧ m ≤ gl m := by
  unfold gl
  split <;> omega
theorem nlen_of {ρ : Rs} {kn nn : Nat} (h : rR ρ 70 6 = some kn) (k : shp ρ kn = .inr (0, nn)) : nlen ρ = nn := by
  unfold nlen
  rw [h]
  dsimp only
  rw [k]
theorem grw_6 (ρ : Rs) : rR (grw ρ) 70 6 = some (rn ρ) := setR_eq _ _ _ _
theorem grw_s {ρ : Rs} (h : N0 ≤ rn ρ) : shp (grw ρ) (rn ρ) = .inr (0, gl (nlen ρ)) := by
  unfold shp
  rw [if_neg (by omega)]
  show Sum.inr (0, (if rn ρ = rn ρ then gl (nlen ρ) else rl ρ (rn ρ))) = _
  rw [if_pos rfl]
theorem rf70 : (∀ q ∈ refTab, ¬ (q.1 = 70 ∧ q.2.1 = 6)) ∧ (∀ q ∈ refTab, ¬ (q.1 = 70 ∧ q.2.1 = 16)) ∧ ∀ q ∈ refTab, ¬ (q.1 = 70 ∧ q.2.1 = 17) := by decide +kernel
theorem grw_o {ρ : Rs} (h : N0 ≤ rn ρ) {j : Nat} (hj : j ≠ 6) : rR (grw ρ) 70 j = rR ρ 70 j := by
  unfold N0 at h
  show rR (setR _ 70 6 _) 70 j = _
  rw [setR_at, if_neg (fun z => hj z.2)]
  show (if 70 = rn ρ then fun _ => none else rR ρ 70) j = _
  rw [if_neg (by omega)]
theorem grw_nlen {ρ : Rs} (h : N0 ≤ rn ρ) : nlen (grw ρ) = gl (nlen ρ) := nlen_of (grw_6 ρ) (grw_s h)
theorem NR.grw {ρ : Rs} (h : NR ρ) : NR (grw ρ) := by
  obtain ⟨h1, h2, h3, h4, ka, kb, h5, h6, h7⟩ := h
  have hb := gl_b h3 h4
  have hN := h1.1
  refine ⟨(h1.newR _ _).setR rf70.1, ⟨rn ρ, grw_6 ρ, Or.inr (by unfold N0 at hN; exact hN), by show rn ρ < rn ρ + 1; omega, by rw [grw_nlen hN]; exact grw_s hN⟩, by rw [grw_nlen hN]; exact hb.1, by rw [grw_nlen hN]; exact hb.2.1, ka, kb, by rw [grw_o hN (by decide)]; exact h5, by rw [grw_o hN (by decide)]; exact h6, h7⟩
theorem NR.ens {ρ : Rs} (h : NR ρ) (m : Nat) : NR (ens m ρ) := by
  show NR (if m < nlen ρ then ρ else setR (newR ρ (gl (nlen ρ)) (gl (nlen ρ))) 70 6 (some (rn ρ)))
  split
  · exact h
  · exact h.grw
theorem ens_lt {ρ : Rs} (h : NR ρ) {m : Nat} (hm : m ≤ nlen ρ) (hm2 : m < 72000) : m < nlen (ens m ρ) ∧ nlen ρ ≤ nlen (ens m ρ) := by
  have hb := gl_b h.2.2.1 h.2.2.2.1
  unfold ens
  split
  · exact ⟨by assumption, Nat.le_refl _⟩
  · rw [grw_nlen h.1.1]
    exact ⟨by have := hb.2.2.1; omega, hb.2.2.2⟩
theorem ens_rc (m : Nat) (ρ : Rs) : rc ρ ≤ rc (ens m ρ) ∧ ru ρ ≤ ru (ens m ρ) := by
  unfold ens
  split
  · exact ⟨Nat.le_refl _, Nat.le_refl _⟩
  · exact ⟨Nat.le_succ _, Nat.le_add_right _ _⟩
theorem psh_rc : ∀ t m ρ, rc ρ ≤ rc (psh m t ρ) ∧ ru ρ ≤ ru (psh m t ρ)
  | 0, _, _ => ⟨Nat.le_refl _, Nat.le_refl _⟩
  | t + 1, m, ρ => by
    have h1 := ens_rc m ρ
    have h2 := psh_rc t (m + 1) (ens m ρ)
    exact ⟨Nat.le_trans h1.1 h2.1, Nat.le_trans h1.2 h2.2⟩
theorem NR.psh : ∀ t m {ρ : Rs}, NR ρ → NR (psh m t ρ)
  | 0, _, _, h => h
  | t + 1, m, _, h => NR.psh t (m + 1) (h.ens m)
theorem psh_len : ∀ t m {ρ : Rs}, NR ρ → m ≤ nlen ρ → m + t ≤ 72000 → m + t ≤ nlen (psh m t ρ)
  | 0, _, _, _, h, _ => h
  | t + 1, m, ρ, h, h1, h2 => by
    have := psh_len t (m + 1) (h.ens m) (by have := (ens_lt h h1 (by omega)).1; omega) (by omega)
    show m + (t + 1) ≤ nlen (psh (m + 1) t (ens m ρ))
    omega
theorem psh_app : ∀ t m t' ρ, psh (m + t) t' (psh m t ρ) = psh m (t + t') ρ
  | 0, m, t', ρ => by rw [Nat.zero_add]; rfl
  | t + 1, m, t', ρ => by
    have := psh_app t (m + 1) t' (ens m ρ)
    rw [show t + 1 + t' = (t + t') + 1 by omega]
    show psh (m + (t + 1)) t' (psh (m + 1) t (ens m ρ)) = psh (m + 1) (t + t') (ens m ρ)
    rw [← this, show m + (t + 1) = m + 1 + t by omega]
/-- what is put so far -/
def NeA (ρ : Rs) (P : List Nat) (S : St) : Prop := S.1 70 7 = nI P.length ∧ ∃ kn, rR ρ 70 6 = some kn ∧ ∀ t, t < P.length → S.1 kn t = nI (P.getD t 0)
/-- nothing else has changed -/
def KN (S S' : St) : Prop := (∀ k, k ≠ 70 → ¬ knO k → S'.1 k = S.1 k) ∧ (∀ k, ¬ knO k → S'.2 k = S.2 k) ∧ ∀ j, j ≠ 7 → S'.1 70 j = S.1 70 j
theorem KN.rf (S : St) : KN S S := ⟨fun _ _ _ => rfl, fun _ _ => rfl, fun _ _ => rfl⟩
theorem KN.tr {S S1 S2 : St} (h : KN S S1) (k : KN S1 S2) : KN S S2 := ⟨fun j h1 h2 => (k.1 j h1 h2).trans (h.1 j h1 h2), fun j h1 => (k.2.1 j h1).trans (h.2.1 j h1), fun j hj => (k.2.2 j hj).trans (h.2.2 j hj)⟩
theorem MVI.of {L : List MVt} {S S' : St} (h : MVI L S) (e : ∀ k, 26 ≤ k → k ≤ 30 → S'.1 k = S.1 k ∧ S'.2 k = S.2 k) : MVI L S' := by
  refine ⟨by rw [(e 26 (by decide) (by decide)).1]; exact h.1, fun i hi => ?_⟩
  have := h.2 i hi
  unfold mvAt at this ⊢
  rw [(e 27 (by decide) (by decide)).2, (e 28 (by decide) (by decide)).1, (e 29 (by decide) (by decide)).1, (e 30 (by decide) (by decide)).1]
  exact this
theorem KN.mv {S S' : St} (h : KN S S') : ∀ k, 26 ≤ k → k ≤ 30 → S'.1 k = S.1 k ∧ S'.2 k = S.2 k := fun k h1 h2 => ⟨h.1 k (by omega) (by unfold knO; omega), h.2.1 k (by unfold knO; omega)⟩
theorem MVd.of {a : AS} {S S' : St} (h : MVd a S) (e : ∀ k, 26 ≤ k → k ≤ 30 → S'.1 k = S.1 k ∧ S'.2 k = S.2 k) : MVd a S' := ⟨by rw [(e 26 (by decide) (by decide)).1]; exact h.1, by rw [(e 26 (by decide) (by decide)).1]; exact h.2.1, h.2.2.of e⟩
theorem gl_i {nn : Nat} (h : nn ≤ 72000) : (if (2 * Int32.ofNat nn) < (72000 : Int32) then (2 * Int32.ofNat nn) else 72000) = nI (gl nn) := by
  have e : (2 : Int32) * Int32.ofNat nn = nI (2 * nn) := pk_mul 2 nn
  rw [e]
  unfold gl
  by_cases c : 2 * nn < 72000
  · rw [if_pos c, if_pos (show nI (2 * nn) < (72000 : Int32) from nI_lt (b := 72000) c (by omega))]
  · rw [if_neg c, if_neg (show ¬ nI (2 * nn) < (72000 : Int32) from nI_nlt (b := 72000) (by omega) (by omega))]
    rfl
theorem mv_at {A B : List MVt} {m : MVt} : (A ++ m :: B).getD A.length mv0 = m := by
  rw [List.getD_eq_getElem?_getD, List.getElem?_append_right (Nat.le_refl _), Nat.sub_self]
  rfl
section LK
variable {g : GX} {d : Nat} {ρ : Rs} {S : St} {a : AS}
/-- one that is near is put -/
theorem sC_put1 {Q : St → Prop} {ρ' : Rs} (hA : ∀ k, 16 ≤ k → gF g k) (hN : NR ρ) (e : ρ = ρ') {v : Nat} {P : List Nat} (hP : NeA ρ P S) (hPl : P.length < nlen ρ) (h : ∀ S', NeA ρ (P ++ [v]) S' → KN S S' → Q S') : AW g ρ' (QV Q) (d + 4) mX6_addNear 45 [(0, .ref 70), (1, .int (nI v))] [] ρ S := by
  subst e
  obtain ⟨kn, k1, k2, k3, k4⟩ := hN.2.1
  have hl2 := hN.2.2.2.1
  have kn16 : 16 ≤ kn := by unfold knO at k2; omega
  have k70 : kn ≠ 70 := by unfold knO at k2; omega
  refine eX6_addNear_45 hN.1 k1 kn16 k3 k4 (Nat.le_refl _) (Nat.le_refl _) (fun k hk => hA k (by simp at hk; omega)) (hA kn kn16) ?_
  rw [hP.1, if_neg (show ¬ nI P.length < (0 : Int32) from nI_nlt (b := 0) (by omega) (by omega)), if_neg (show ¬ Int32.ofNat (nlen ρ) ≤ nI P.length from nI_ge hPl (by omega)), nI_clamp (show P.length < 2 ^ 31 by omega)]
  refine ⟨vp_in_nI hPl (by omega), rfl, ?_⟩
  have e7 : (setI S kn P.length (nI v)).1 70 7 = nI P.length := by
    rw [setI_ne _ _ _ (Ne.symm k70), hP.1]
  rw [e7, nI_1 P.length]
  refine h _ ⟨?_, kn, k1, fun t ht => ?_⟩ ⟨fun k q1 q2 => ?_, fun k q => rfl, fun j hj => ?_⟩
  · rw [setI_at, if_pos ⟨rfl, rfl⟩, len1]
  · rw [len1] at ht
    rw [setI_ne _ _ _ k70, setI_at]
    by_cases c : t = P.length
    · rw [if_pos ⟨rfl, c⟩, c, getD_e]
    · rw [if_neg (fun z => c z.2), getD_l (by omega)]
      obtain ⟨kn', k1', k2'⟩ := hP.2
      rw [k1] at k1'
      rw [Option.some.inj k1']
      exact k2' t (by omega)
  · rw [setI_ne _ _ _ q1, setI_ne _ _ _ (fun z => q2 (by rw [z]; exact k2))]
  · rw [setI_at, if_neg (fun z => hj z.2), setI_ne _ _ _ (Ne.symm k70)]
theorem sC_addNear {Q : St → Prop} {ρ' : Rs} (hA : ∀ k, 16 ≤ k → gF g k) (nr : NR ρ) {v : Nat} {P : List Nat} (ne : NeA ρ P S) (hl : P.length ≤ nlen ρ) (hPs : P.length < 72000) (hρ' : ens P.length ρ = ρ') (h : ∀ S', NeA ρ' (P ++ [v]) S' → KN S S' → Q S') : CALLv g (d + 4) mX6_addNear [.ref 70, .int (nI v)] ρ ρ' S Q := by
  obtain ⟨kn, k1, k2, k3, k4⟩ := nr.2.1
  have kn16 : 16 ≤ kn := by unfold knO at k2; omega
  have hnl := nr.2.2.2.1
  have hF : ∀ k ∈ ([70] : List Nat), gF g k := fun k hk => hA k (by simp at hk; omega)
  unfold ens at hρ'
  by_cases cl : P.length < nlen ρ
  · rw [if_pos cl] at hρ'
    subst hρ'
    refine eX6_addNear nr.1 k1 kn16 k3 k4 (ρ1 := ρ) nr.1 (Nat.le_refl _) (Nat.le_refl _) (l1 := 0) (Nat.le_refl _) (Nat.le_refl _) hF ?_
    rw [ne.1, if_pos (show nI P.length < Int32.ofNat (nlen ρ) from nI_lt cl (by omega))]
    exact sC_put1 hA nr rfl ne cl h
  · rw [if_neg cl] at hρ'
    subst hρ'
    have epl : P.length = nlen ρ := by omega
    have hgb := gl_b nr.2.2.1 nr.2.2.2.1
    have hg := hgb.2.2.1 (by omega)
    have hrn : N0 ≤ rn ρ := nr.1.1
    have hrn2 : 95 ≤ rn ρ := hrn
    have hr1 : rc ρ ≤ rc (grw ρ) := Nat.le_succ _
    have hr2 : ru ρ ≤ ru (grw ρ) := Nat.le_add_right _ _
    refine eX6_addNear nr.1 k1 kn16 k3 k4 (ρ1 := newR ρ (gl (nlen ρ)) (gl (nlen ρ))) (nr.1.newR _ _) (Nat.le_refl _) (Nat.le_refl _) (l1 := gl (nlen ρ)) hr1 hr2 hF ?_
    rw [ne.1, if_neg (show ¬ nI P.length < Int32.ofNat (nlen ρ) from nI_nlt (by omega) (by omega)), if_neg (show ¬ (72000 : Int32) ≤ Int32.ofNat (nlen ρ) from nI_ge (b := 72000) (by omega) (by omega)), gl_i nr.2.2.2.1]
    refine eJ7_copyOf_59c91 nr.1 kn16 k3 k4 (Nat.le_succ _) (Nat.le_add_right _ _) (hA _ (by omega)) ?_
    have emin : (if nI (gl (nlen ρ)) < Int32.ofNat (nlen ρ) then nI (gl (nlen ρ)) else Int32.ofNat (nlen ρ)) = nI (nlen ρ) := if_neg (show ¬ nI (gl (nlen ρ)) < nI (nlen ρ) from nI_nlt (by omega) (by omega))
    rw [if_neg (show ¬ nI (gl (nlen ρ)) = Int32.ofNat (nlen ρ) from fun z => by have := (nI_eq (by omega) (by omega)).mp z; omega), emin, nI_clamp (show gl (nlen ρ) < 2 ^ 31 by omega), nI_clamp (show nlen ρ < 2 ^ 31 by omega)]
    refine ⟨nI_nlt (b := 0) (by omega) (by omega), by omega, Nat.le_refl _, Nat.le_refl _, nI_nlt (b := 0) (by omega) (by omega), Nat.le_refl _, by omega, rfl, by omega, by show rn ρ < rn ρ + 1; omega, ?_, hA _ (by omega), ?_⟩
    · exact grw_s hrn
    have nr2 := nr.grw
    have hcl2 : P.length < nlen (grw ρ) := by rw [grw_nlen hrn]; omega
    have kk2 : KN S (cpyS (newS S (rn ρ)) kn (rn ρ) (nlen ρ)) := by
      refine ⟨fun k q1 q2 => ?_, fun k q => ?_, fun j hj => ?_⟩
      · have q3 : k ≠ rn ρ := fun z => q2 (Or.inr (by omega))
        rw [(cpyS_fr _ _ _ _ k q3).1, (newS_fr _ _ k q3).1]
      · have q3 : k ≠ rn ρ := fun z => q (Or.inr (by omega))
        rw [(cpyS_fr _ _ _ _ k q3).2, (newS_fr _ _ k q3).2]
      · have q3 : 70 ≠ rn ρ := by omega
        rw [(cpyS_fr _ _ _ _ 70 q3).1, (newS_fr _ _ 70 q3).1]
    have ne2 : NeA (grw ρ) P (cpyS (newS S (rn ρ)) kn (rn ρ) (nlen ρ)) := by
      have q3 : 70 ≠ rn ρ := by omega
      refine ⟨by rw [(cpyS_fr _ _ _ _ 70 q3).1, (newS_fr _ _ 70 q3).1]; exact ne.1, rn ρ, grw_6 ρ, fun t ht => ?_⟩
      show (if rn ρ = rn ρ then fun j => if j < nlen ρ then (newS S (rn ρ)).1 kn j else (newS S (rn ρ)).1 (rn ρ) j else (newS S (rn ρ)).1 (rn ρ)) t = _
      rw [if_pos rfl, if_pos (by omega), (newS_fr _ _ kn (by omega)).1]
      obtain ⟨kn', k1', k2'⟩ := ne.2
      rw [k1] at k1'
      rw [Option.some.inj k1']
      exact k2' t ht
    exact sC_put1 (ρ := grw ρ) hA nr2 rfl ne2 hcl2 (fun S2 ne3 k3' => h S2 ne3 (kk2.tr k3'))
theorem sC_linkSwaps {Q : St → Prop} {ρ' : Rs} (hA : ∀ k, 16 ≤ k → gF g k) (hN : NR ρ) (hW : WF a) (hR : nR a ≠ 0) (hn : (KK a).length ≤ 1000) (hL : LstC (KK a) S) (hM : MVd a S) {u : Nat} (hu : u < (KK a).length) {P : List Nat} (hP : NeA ρ P S) (hPl : P.length ≤ nlen ρ) (hPs : P.length + (NB a u).length ≤ 72000) (hρ' : psh P.length (NB a u).length ρ = ρ') (h : ∀ S', NeA ρ' (P ++ NB a u) S' → KN S S' → Q S') : CALLv g (d + 6) mX6_linkSwaps [.ref 70, .long (lN ((KK a).getD u 0))] ρ ρ' S Q := by
  have hml := MV_all hW
  have hrc := psh_rc (NB a u).length P.length ρ
  rw [hρ'] at hrc
  refine eX6_linkSwaps hN.1 hrc.1 hrc.2 ?_
  have hpu := (KK_tab hW hR (getD_mem hu)).2.2
  have hu16 : ∀ y x, unp ((KK a).getD u 0) y x < 16 := fun y x => unp_lt _ _ _
  have key : ∀ B A Pc ρc S1, SWs a = A ++ B → NR ρc → Pc.length ≤ nlen ρc → NeA ρc Pc S1 → KN S S1 → Pc.length + (B.filter (mvC (unp ((KK a).getD u 0)))).length ≤ 72000 → psh Pc.length (B.filter (mvC (unp ((KK a).getD u 0)))).length ρc = ρ' → Pc ++ (B.filter (mvC (unp ((KK a).getD u 0)))).map (nxI a u) = P ++ NB a u → AW g ρ' (QV Q) (d + 5 + 1) mX6_linkSwaps 2 [(0, .ref 70), (1, .long (lN ((KK a).getD u 0))), (3, .int (nI A.length))] [] ρc S1 := by
    intro B
    induction B with
    | nil =>
      intro A Pc ρc S1 hAB nr hl ne kk _ hp he
      have hM1 : MVd a S1 := hM.of kk.mv
      have hp : ρc = ρ' := hp
      rw [List.append_nil] at hAB
      have hsl : (SWs a).length ≤ 264 := by rw [List.length_append] at hml; omega
      refine eX6_linkSwaps_2 nr.1 (ρ3 := ρc) nr.1 (by rw [hp]; exact Nat.le_refl _) (by rw [hp]; exact Nat.le_refl _) (by rw [hp]; exact Nat.le_refl _) (by rw [hp]; exact Nat.le_refl _) ?_
      rw [hM1.1, hAB, if_pos (nI_le (Nat.le_refl _) (by rw [← hAB]; omega))]
      refine ⟨hp, h S1 ?_ kk⟩
      have he : Pc ++ [] = P ++ NB a u := he
      rw [List.append_nil] at he
      rw [← he, ← hp]
      exact ne
    | cons m B ih =>
      intro A Pc ρc S1 hAB nr hl ne kk hs hp he
      have hM1 : MVd a S1 := hM.of kk.mv
      have hL1 : LstC (KK a) S1 := hL.of (kk.2.2 3 (by decide)) (kk.2.1 71 (by unfold knO; omega))
      have hAl : A.length < (SWs a).length := by rw [hAB, List.length_append, List.length_cons]; omega
      have hAl2 : A.length < (SWs a ++ TNs a).length := by rw [List.length_append]; omega
      have em : (SWs a ++ TNs a).getD A.length mv0 = m := by rw [hAB, List.append_assoc, List.cons_append]; exact mv_at
      have hm : m ∈ SWs a := by rw [hAB]; simp
      have hok := SWs_frM hW hm
      have hrc2 := psh_rc ((m :: B).filter (mvC (unp ((KK a).getD u 0)))).length Pc.length ρc
      rw [hp] at hrc2
      have hnl := nr.2.2.2.1
      have next : ∀ Pc' ρ2 S2, NR ρ2 → Pc'.length ≤ nlen ρ2 → NeA ρ2 Pc' S2 → KN S S2 → Pc'.length + (B.filter (mvC (unp ((KK a).getD u 0)))).length ≤ 72000 → psh Pc'.length (B.filter (mvC (unp ((KK a).getD u 0)))).length ρ2 = ρ' → Pc' ++ (B.filter (mvC (unp ((KK a).getD u 0)))).map (nxI a u) = P ++ NB a u → AW g ρ' (QV Q) (d + 5 + 1) mX6_linkSwaps 2 [(0, .ref 70), (1, .long (lN ((KK a).getD u 0))), (3, .int (nI A.length + 1))] [] ρ2 S2 := by
        intro Pc' ρ2 S2 a1 a2 a3 a4 a5 a6 a7
        have := ih (A ++ [m]) Pc' ρ2 S2 (by rw [hAB, List.append_assoc]; rfl) a1 a2 a3 a4 a5 a6 a7
        rw [List.length_append] at this
        rw [nI_1]
        exact this
      have canU : ∀ {Q' : Int32 → St → Prop}, Q' (if mvC (unp ((KK a).getD u 0)) m = true then 1 else 0) S1 → CALLi g (d + 5) mX5_can [.ref 26, .long (lN ((KK a).getD u 0)), .int (nI A.length)] ρc ρc S1 Q' := fun {Q'} hq => by
        have z := sC_can (g := g) (d := d + 1) (Q := Q') (t := unp ((KK a).getD u 0)) nr.1 hM1.2.2 hAl2 hml hu16 (by rw [em]; exact hok.2.1) (by rw [em]; exact hq)
        rw [hpu] at z
        exact z
      have hif : ¬ nI (SWs a).length ≤ nI A.length := nI_ge hAl (by rw [List.length_append] at hml; omega)
      by_cases c : mvC (unp ((KK a).getD u 0)) m = true
      · have ef : (m :: B).filter (mvC (unp ((KK a).getD u 0))) = m :: B.filter (mvC (unp ((KK a).getD u 0))) := by rw [List.filter_cons, if_pos c]
        rw [ef, List.length_cons] at hs hp
        rw [ef, List.map_cons] at he
        have hp2 : psh (Pc.length + 1) (B.filter (mvC (unp ((KK a).getD u 0)))).length (ens Pc.length ρc) = ρ' := hp
        have hrc3 := psh_rc (B.filter (mvC (unp ((KK a).getD u 0)))).length (Pc.length + 1) (ens Pc.length ρc)
        rw [hp2] at hrc3
        have hel := ens_lt nr hl (show Pc.length < 72000 by omega)
        refine eX6_linkSwaps_2 nr.1 (ρ3 := ens Pc.length ρc) (nr.ens _).1 hrc3.1 hrc3.2 hrc2.1 hrc2.2 ?_
        rw [hM1.1, if_neg hif]
        refine canU ?_
        rw [if_pos c, if_neg (by decide), nI_clamp (show A.length < 2 ^ 31 by omega), (hM1.2.2.2 A.length hAl2).1, em]
        obtain ⟨j1, j2, j3⟩ := mvT_KK hW hR hok (getD_mem hu) c
        have hnx := KK_idx j1
        have ex : nxI a u m = rkK a (pack (mvT m (unp ((KK a).getD u 0)))) := rfl
        rw [j3]
        rw [← ex] at hnx
        rw [← hnx.2]
        refine ⟨vp_in_nI (by omega) (by omega), ?_⟩
        refine sC_find nr.1 hL1 (KK_sorted a) (fun p hp => (KK_mem.mp hp).1) hn hnx.1 ?_
        refine sC_addNear hA nr ne hl (by omega) rfl (fun S2 ne2 k2' => ?_)
        refine next (Pc ++ [nxI a u m]) (ens Pc.length ρc) S2 (nr.ens _) (by rw [len1]; omega) ne2 (kk.tr k2') (by rw [len1]; omega) ?_ (by rw [List.append_assoc]; exact he)
        rw [len1]
        exact hp2
      · have ef : (m :: B).filter (mvC (unp ((KK a).getD u 0))) = B.filter (mvC (unp ((KK a).getD u 0))) := by rw [List.filter_cons, if_neg c]
        rw [ef] at hs hp he
        refine eX6_linkSwaps_2 nr.1 (ρ3 := ρc) nr.1 hrc2.1 hrc2.2 hrc2.1 hrc2.2 ?_
        rw [hM1.1, if_neg hif]
        refine canU ?_
        rw [if_neg c, if_pos rfl]
        exact next Pc ρc S1 nr hl ne kk hs hp he
  have el : ((SWs a).filter (mvC (unp ((KK a).getD u 0)))).length = (NB a u).length := by unfold NB; rw [List.length_map]
  exact key (SWs a) [] P ρ S rfl hN hPl hP (KN.rf S) (by rw [el]; exact hPs) (by rw [el]; exact hρ') rfl
end LK
