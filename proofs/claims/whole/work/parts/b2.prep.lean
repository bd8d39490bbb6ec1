-- THE CLASS'S NET MADE
theorem rch_sy {a : AS} (hW : WF a) (hR : nR a ≠ 0) {u v : Nat} (h : rch (adjS a) u v) : rch (adjS a) v u := by
  obtain ⟨m, hm⟩ := h
  exact ⟨m, pth_sy (adjS_sy hW hR) m u v hm⟩
theorem rch_tr {adj : Nat → Nat → Prop} {u v w : Nat} (h : rch adj u v) (k : rch adj v w) : rch adj u w := by
  obtain ⟨m, hm⟩ := h
  obtain ⟨n, hn⟩ := k
  exact ⟨m + n, pth_tr hm n w hn⟩
/-- the least that leads to v -/
def hdA (a : AS) (v j : Nat) : Prop := rch (adjS a) j v ∧ ∀ i, i < j → ¬ rch (adjS a) i v
/-- the net stands in the store -/
def IN (a : AS) (ρ : Rs) (S : St) : Prop := (∃ kn, rR ρ 70 6 = some kn ∧ CN a kn S) ∧ FNo a (KK a).length ≤ nlen ρ ∧ S.1 70 10 = nI (cntC (adjS a) (KK a).length) ∧ (∀ v, v < (KK a).length → ∃ j, j < (KK a).length ∧ S.1 74 v = nI j ∧ hdA a v j) ∧ (∀ j, j < (KK a).length → hdN (adjS a) j → ∃ q, RC (adjS a) j q ∧ S.1 75 j = nI q.length) ∧ (S.1 70 11 = -1 ∨ S.1 70 11 = nI (cntC (adjT a) (KK a).length)) ∧ (S.1 70 13 = -1 ∨ ∃ s, s < (KK a).length ∧ S.1 70 13 = nI s ∧ DM (adjS a) (KK a).length s (S.1 76))
def FNt (k : Nat) : Prop := (70 ≤ k ∧ k ≤ 79) ∨ 95 ≤ k
def NL (a : AS) : Nat → List Nat
  | 0 => []
  | i + 1 => NL a i ++ NB a i
theorem NL_len (a : AS) : ∀ i, (NL a i).length = FNo a i
  | 0 => rfl
  | i + 1 => by
    show (NL a i ++ NB a i).length = _
    rw [List.length_append, NL_len a i, FNo_s]
theorem getD_r {L M : List Nat} {i : Nat} : (L ++ M).getD (L.length + i) 0 = M.getD i 0 := by
  rw [List.getD_eq_getElem?_getD, List.getD_eq_getElem?_getD, List.getElem?_append_right (Nat.le_add_right _ _), Nat.add_sub_cancel_left]
theorem NL_at (a : AS) {i t : Nat} (ht : t < (NB a i).length) : ∀ n, i < n → (NL a n).getD (FNo a i + t) 0 = (NB a i).getD t 0
  | 0, h => absurd h (by omega)
  | n + 1, h => by
    show (NL a n ++ NB a n).getD (FNo a i + t) 0 = _
    by_cases c : i = n
    · rw [c] at ht ⊢
      rw [← NL_len, getD_r]
    · have hm : ∀ k, i + 1 ≤ k → FNo a (i + 1) ≤ FNo a k := by
        intro k
        induction k with
        | zero => intro q; omega
        | succ k ih =>
          intro q
          by_cases e : i + 1 = k + 1
          · rw [e]; exact Nat.le_refl _
          · rw [FNo_s a k]
            have := ih (by omega)
            omega
      have := hm n (by omega)
      rw [FNo_s] at this
      rw [getD_l (by rw [NL_len]; omega)]
      exact NL_at a ht n (by omega)
theorem FNo_mono (a : AS) {i : Nat} : ∀ {k : Nat}, i ≤ k → FNo a i ≤ FNo a k
  | 0, h => by rw [show i = 0 by omega]; exact Nat.le_refl _
  | k + 1, h => by
    by_cases e : i = k + 1
    · rw [e]; exact Nat.le_refl _
    · rw [FNo_s a k]
      have := FNo_mono a (show i ≤ k by omega)
      omega
section PR
variable {g : GX} {d : Nat} {ρ : Rs} {S : St} {a : AS}
theorem sC_split {Q : St → Prop} {kn nn : Nat} (hρ : Ok ρ) (hA : ∀ k, 16 ≤ k → gF g k) (hR6 : rR ρ 70 6 = some kn) (hkn : kn < rn ρ) (hsn : shp ρ kn = .inr (0, nn)) (hko : knO kn) (hnn : FNo a (KK a).length ≤ nn) (hnx : nn < 2 ^ 31) (hW : WF a) (hR : nR a ≠ 0) (hn : (KK a).length ≤ 1000) (hC : CN a kn S) (hq : ∀ S', CN a kn S' → S'.1 70 10 = nI (cntC (adjS a) (KK a).length) → (∀ v, v < (KK a).length → ∃ j, j < (KK a).length ∧ S'.1 74 v = nI j ∧ hdA a v j) → (∀ j, j < (KK a).length → hdN (adjS a) j → ∃ q, RC (adjS a) j q ∧ S'.1 75 j = nI q.length) → (∀ j, j ≠ 10 → j ≠ 15 → S'.1 70 j = S.1 70 j) → Fr FNt S S' → Q S') : CALLv g (d + 5) mX6_splitIntoClasses [.ref 70] ρ ρ S Q := by
  have ko : kn ≠ 70 ∧ kn ≠ 74 ∧ kn ≠ 75 ∧ kn ≠ 77 := by unfold knO at hko; omega
  refine eX6_splitIntoClasses hρ (fun k hk => hA k (by simp at hk; omega)) ?_
  refine sJ_fill (k := 74) (n := 1000) hρ (by decide) (by decide) rfl (by decide) (hA 74 (by decide)) (fun S1 f1 r1 v1 => ?_)
  have key : ∀ k i S2 Q0, k + i = (KK a).length → CN a kn S2 → Q0.Nodup → (∀ v, v ∈ Q0 → v < (KK a).length) → VK (adjS a) i Q0 → (∀ u v, u ∈ Q0 → adjS a u v → v ∈ Q0) → (∀ v, v < (KK a).length → (v ∈ Q0 → ∃ j, j < (KK a).length ∧ S2.1 74 v = nI j ∧ hdA a v j) ∧ (v ∉ Q0 → S2.1 74 v = -1)) → S2.1 70 10 = nI (cntC (adjS a) i) → (∀ j, j < i → hdN (adjS a) j → ∃ q, RC (adjS a) j q ∧ S2.1 75 j = nI q.length) → (∀ j, j ≠ 10 → j ≠ 15 → S2.1 70 j = S.1 70 j) → Fr FNt S S2 → AW g ρ (QV Q) (d + 4 + 1) mX6_splitIntoClasses 15 [(0, .ref 70), (1, .int (nI i))] [] ρ S2 := by
    intro k
    induction k with
    | zero =>
      intro i S2 Q0 hk c2 n2 b2 v2 cl m2 e10 e75 k70 fr
      have ei : i = (KK a).length := by omega
      refine eX6_splitIntoClasses_15 hρ (fun k hk => hA k (by simp at hk; omega)) ?_
      rw [c2.1.1, if_pos (nI_le (by omega) (by omega))]
      refine hq S2 c2 (by rw [← ei]; exact e10) (fun v hv => (m2 v hv).1 ((v2 v).mpr ⟨v, 0, by omega, rfl⟩)) (fun j hj => e75 j (by omega)) k70 fr
    | succ k ih =>
      intro i S2 Q0 hk c2 n2 b2 v2 cl m2 e10 e75 k70 fr
      have hi : i < (KK a).length := by omega
      refine eX6_splitIntoClasses_15 hρ (fun k hk => hA k (by simp at hk; omega)) ?_
      rw [c2.1.1, if_neg (nI_ge (by omega) (by omega)), nI_clamp (show i < 2 ^ 31 by omega)]
      refine ⟨vp_in_nI (by omega) (by omega), ?_⟩
      by_cases c0 : i ∈ Q0
      · obtain ⟨j, j1, j2, j3⟩ := (m2 i hi).1 c0
        have hnh : ¬ hdN (adjS a) i := fun z => (v2.hd.mp z) c0
        rw [j2, if_neg (nI_ne1 (by omega)), nI_1]
        refine ih (i + 1) S2 Q0 (by omega) c2 n2 b2 (v2.old cl c0) cl m2 (by rw [cntC_n hnh]; exact e10) (fun j hj hd => ?_) k70 fr
        by_cases e : j = i
        · rw [e] at hd; exact absurd hd hnh
        · exact e75 j (by omega) hd
      · rw [(m2 i hi).2 c0, if_pos rfl, e10, nI_1]
        have c3 : CN a kn (setI S2 70 10 (nI (cntC (adjS a) i + 1))) := by
          refine ⟨c2.1.of (by rw [setI_at, if_neg (by omega)]) rfl, fun j hj => ?_, fun j hj t ht => ?_⟩
          · rw [setI_ne _ _ _ (by decide)]; exact c2.2.1 j hj
          · rw [setI_ne _ _ _ ko.1]; exact c2.2.2 j hj t ht
        refine sC_spread (w := 0) (nn := nn) hρ hA (Or.inl rfl) hR6 hkn hsn hko hnn hnx hW hR hn c3 hi c0 n2 b2 (fun v hv => ?_) (by omega) (fun S3 f q p3 pb sb o3 => ?_)
        · rw [setI_ne _ _ _ (by decide)]
          refine ⟨fun z => ?_, (m2 v hv).2⟩
          obtain ⟨j, j1, j2, -⟩ := (m2 v hv).1 z
          exact ⟨j, by omega, j2⟩
        refine ⟨vp_in_nI (by omega) (by omega), ?_⟩
        have c4 : CN a kn S3 := c3.kp (Or.inl rfl) hko p3
        obtain ⟨v4, cl4⟩ := v2.new cl pb.1
        have hRC : RC (adjS a) i q := by
          refine ⟨pb.1.1, fun v => ⟨fun z => ⟨f v, pb.1.2.2.2.2.2.2.1 v z⟩, fun ⟨m, hm⟩ => ?_⟩⟩
          rcases pb.1.done cl m v hm with z | z
          · obtain ⟨j, m', hj, hp⟩ := (v2 v).mp z
            have h1 : rch (adjS a) j i := rch_tr ⟨m', hp⟩ (rch_sy hW hR ⟨m, hm⟩)
            obtain ⟨m'', h2⟩ := h1
            exact absurd ((v2 i).mpr ⟨j, m'', hj, h2⟩) c0
          · exact z.1
        rw [nI_1]
        have s15 := sb.1
        rw [Nat.zero_add] at s15
        refine ih (i + 1) _ (Q0 ++ q) (by omega) ?_ pb.nd (fun v hv => ?_) v4 cl4 (fun v hv => ⟨fun z => ?_, fun z => ?_⟩) ?_ (fun j hj hd => ?_) (fun j h1 h2 => ?_) ?_
        · refine ⟨c4.1.of (by rw [setI_ne _ _ _ (by decide)]) rfl, fun j hj => ?_, fun j hj t ht => ?_⟩
          · rw [setI_ne _ _ _ (by decide)]; exact c4.2.1 j hj
          · rw [setI_ne _ _ _ ko.2.2.1]; exact c4.2.2 j hj t ht
        · rcases List.mem_append.mp hv with z | z
          · exact b2 v z
          · exact pb.2.1 v z
        · rw [setI_ne _ _ _ (by decide)]
          by_cases zq : v ∈ q
          · refine ⟨i, hi, ?_, ⟨f v, pb.1.2.2.2.2.2.2.1 v zq⟩, fun j hj hr => ?_⟩
            · have := (sb.2.2 v hv).1 zq
              rw [Nat.zero_mul, Nat.add_zero] at this
              exact this
            · obtain ⟨m, hm⟩ := hr
              exact pb.1.2.1 v zq ((v2 v).mpr ⟨j, m, hj, hm⟩)
          · have z0 : v ∈ Q0 := by
              rcases List.mem_append.mp z with y | y
              · exact y
              · exact absurd y zq
            obtain ⟨j, j1, j2, j3⟩ := (m2 v hv).1 z0
            refine ⟨j, j1, ?_, j3⟩
            rw [o3 v z0, setI_ne _ _ _ (by decide)]
            exact j2
        · rw [setI_ne _ _ _ (by decide)]
          rw [List.mem_append] at z
          exact (sb.2.2 v hv).2.2 (fun y => z (Or.inl y)) (fun y => z (Or.inr y))
        · rw [setI_ne _ _ _ (by decide), p3.2.1 10 (by decide), setI_at, if_pos ⟨rfl, rfl⟩, cntC_y (v2.hd.mpr c0)]
        · rw [setI_at]
          by_cases e : j = i
          · rw [if_pos ⟨rfl, e⟩, e, s15]
            exact ⟨q, hRC, rfl⟩
          · rw [if_neg (fun z => e z.2), p3.1 75 (by decide) (by decide) (by decide), setI_ne _ _ _ (by decide)]
            exact e75 j (by omega) hd
        · rw [setI_ne _ _ _ (by decide), p3.2.1 j h2, setI_at, if_neg (fun z => h1 z.2)]
          exact k70 j h1 h2
        · have f3 : Fr FNt S2 S3 := fun k hk => by
            unfold FNt at hk
            refine ⟨?_, by rw [p3.2.2]; rfl⟩
            rw [p3.1 k (by omega) (by omega) (by omega), setI_ne _ _ _ (by omega)]
          exact fr.tr (f3.tr (Fr.setI (F := FNt) (k := 75) _ _ _ (Or.inl ⟨by decide, by decide⟩)))
  have c1 : CN a kn (setI S1 70 10 0) := by
    refine ⟨hC.1.of (by rw [setI_at, if_neg (by omega), (r1 70 (by decide)).1]) (by show S1.2 71 = _; rw [v1]), fun j hj => ?_, fun j hj t ht => ?_⟩
    · rw [setI_ne _ _ _ (by decide), (r1 72 (by decide)).1]; exact hC.2.1 j hj
    · rw [setI_ne _ _ _ ko.1, (r1 kn ko.2.1).1]; exact hC.2.2 j hj t ht
  refine key (KK a).length 0 _ [] (by omega) c1 List.nodup_nil (fun v hv => absurd hv (by simp)) (fun v => ⟨fun z => absurd z (by simp), fun ⟨j, m, h1, _⟩ => absurd h1 (by omega)⟩) (fun u v z => absurd z (by simp)) (fun v hv => ⟨fun z => absurd z (by simp), fun _ => ?_⟩) ?_ (fun j hj => absurd hj (by omega)) (fun j h1 h2 => ?_) ?_
  · rw [setI_ne _ _ _ (by decide)]; exact f1 v (by omega)
  · rw [setI_at, if_pos ⟨rfl, rfl⟩]; rfl
  · rw [setI_at, if_neg (fun z => h1 z.2), (r1 70 (by decide)).1]
  · exact Fr.tr (r1.mono (fun k hk => Or.inl (by omega))) (Fr.setI (F := FNt) _ _ _ (Or.inl ⟨by decide, by decide⟩))
/-- near's label and length are as they were told -/
theorem NR.kn (h : NR ρ) : ∃ kn, rR ρ 70 6 = some kn ∧ knO kn ∧ kn < rn ρ ∧ shp ρ kn = .inr (0, nlen ρ) := h.2.1
/-- prepare, when it is to be done -/
theorem sC_prepare1 {Q : St → Prop} {V : Nat → List Nat} {ρ' : Rs} (hA : ∀ k, 16 ≤ k → gF g k) (hN : NR ρ) (hW : WF a) (hR : nR a ≠ 0) (hn : (KK a).length ≤ 1000) (hF : IFb a V S) (hM : MVd a S) (h2 : S.1 70 2 = 0) (hρ' : psh 0 (FNo a (KK a).length) ρ = ρ') (h : ∀ S', IN a ρ' S' → S'.1 70 2 = 1 → Fr FNt S S' → Q S') : CALLv g (d + 7) mX6_prepare [.ref 70] ρ ρ' S Q := by
  have hrc := psh_rc (FNo a (KK a).length) 0 ρ
  rw [hρ'] at hrc
  have hfl := FNo_le hW (KK a).length
  have f70 : ∀ j v S, Fr FNt S (setI S 70 j v) := fun j v S => Fr.setI (F := FNt) (k := 70) _ _ _ (Or.inl ⟨by decide, by decide⟩)
  refine eX6_prepare hN.1 hrc.1 hrc.2 (fun k hk => hA k (by simp at hk; omega)) ?_
  rw [if_pos h2]
  have ff : ∀ {S'}, Fr FNt S S' → IFb a V S' := fun f => hF.fr (fun k hk => (f k (fun z => by unfold FFb at hk; unfold FNt at z; omega)).1) (fun k hk => (f k (fun z => by unfold FFb at hk; unfold FNt at z; omega)).2)
  have fm : ∀ {S'}, Fr FNt S S' → MVd a S' := fun f => hM.of (fun k h1 h2 => f k (by unfold FNt; omega))
  have fr1 : Fr FNt S (setI (setI (setI S 70 2 1) 70 13 (-1)) 70 11 (-1)) := ((f70 2 1 S).tr (f70 13 (-1) _)).tr (f70 11 (-1) _)
  refine sC_size hN.1 hW hR (ff fr1) ?_
  have esz : (if lN (KK a).length < (1000 : Int64) then lN (KK a).length else 1000).toInt32 = nI (KK a).length := by
    by_cases c : (KK a).length < 1000
    · rw [if_pos (show lN (KK a).length < (1000 : Int64) from (lNlt (n := 1000) (by omega) (by omega)).mpr c)]
      exact lN_i _
    · rw [if_neg (show ¬ lN (KK a).length < (1000 : Int64) from fun z => c ((lNlt (n := 1000) (by omega) (by omega)).mp z))]
      rw [show (KK a).length = 1000 by omega]
      rfl
  rw [esz]
  -- who is near whom
  have k2 : ∀ k u ρc S1, k + u = (KK a).length → NR ρc → psh 0 (FNo a u) ρ = ρc → FNo a u ≤ nlen ρc → NeA ρc (NL a u) S1 → LstC (KK a) S1 → (∀ i, i < u → S1.1 72 i = nI (FNo a i)) → Fr FNt S S1 → S1.1 70 2 = 1 → S1.1 70 13 = -1 → S1.1 70 11 = -1 → AW g ρ' (QV Q) (d + 5 + 2) mX6_prepare 81 [(0, .ref 70), (1, .int (nI u))] [] ρc S1 := by
    intro k
    induction k with
    | zero =>
      intro u ρc S1 hk nr hp hl ne ls e72 fr e2 e13 e11
      have eu : u = (KK a).length := by omega
      have hp2 : ρc = ρ' := by rw [← hp, eu, hρ']
      obtain ⟨kn, k1, k2, k3, k4⟩ := nr.2.1
      have hnl := nr.2.2.2.1
      refine eX6_prepare_81 nr.1 (ρ2 := ρc) nr.1 (by rw [hp2]; exact Nat.le_refl _) (by rw [hp2]; exact Nat.le_refl _) (by rw [hp2]; exact Nat.le_refl _) (by rw [hp2]; exact Nat.le_refl _) (fun k hk => hA k (by simp at hk; omega)) ?_
      rw [ls.1, if_pos (nI_le (by omega) (by omega)), nI_clamp (by omega)]
      refine ⟨vp_in_nI (by omega) (by omega), ?_⟩
      have e7 : S1.1 70 7 = nI (FNo a (KK a).length) := by rw [ne.1, NL_len, eu]
      have c1 : CN a kn (setI S1 72 (KK a).length (S1.1 70 7)) := by
        refine ⟨ls.of (by rw [setI_ne _ _ _ (by decide)]) rfl, fun i hi => ?_, fun i hi t ht => ?_⟩
        · rw [setI_at]
          by_cases c : i = (KK a).length
          · rw [if_pos ⟨rfl, c⟩, e7, c]
          · rw [if_neg (fun z => c z.2)]; exact e72 i (by omega)
        · obtain ⟨kn', k1', k2'⟩ := ne.2
          rw [k1] at k1'
          rw [← Option.some.inj k1'] at k2'
          have hm := FNo_mono a (show i + 1 ≤ u by omega)
          rw [FNo_s] at hm
          rw [setI_ne _ _ _ (by unfold knO at k2; omega), k2' _ (by rw [NL_len]; omega), NL_at a ht u (by omega)]
      refine sC_split (nn := nlen ρc) nr.1 hA k1 k3 k4 k2 (by rw [← eu]; exact hl) (by omega) hW hR hn c1 (fun S2 c2 q10 q74 q75 q70 f2 => ?_)
      have f3 : Fr FNt S S2 := (fr.tr (Fr.setI (F := FNt) (k := 72) _ _ _ (Or.inl ⟨by decide, by decide⟩))).tr f2
      have q70b : ∀ j, j ≠ 10 → j ≠ 15 → S2.1 70 j = S1.1 70 j := fun j h1 h2 => by rw [q70 j h1 h2, setI_ne _ _ _ (by decide)]
      refine ⟨hp2, h S2 ⟨⟨kn, by rw [← hp2]; exact k1, c2⟩, by rw [← hp2, ← eu]; exact hl, q10, q74, q75, Or.inl ?_, Or.inl ?_⟩ ?_ f3⟩
      · rw [q70b 11 (by decide) (by decide)]; exact e11
      · rw [q70b 13 (by decide) (by decide)]; exact e13
      · rw [q70b 2 (by decide) (by decide)]; exact e2
    | succ k ih =>
      intro u ρc S1 hk nr hp hl ne ls e72 fr e2 e13 e11
      have hu : u < (KK a).length := by omega
      have hm := FNo_mono a (show u + 1 ≤ (KK a).length by omega)
      rw [FNo_s] at hm
      have ep : psh (FNo a u) (NB a u).length ρc = psh 0 (FNo a (u + 1)) ρ := by
        have := psh_app (FNo a u) 0 (NB a u).length ρ
        rw [Nat.zero_add, hp] at this
        rw [this, FNo_s]
      have hrc2 := psh_rc (FNo a (KK a).length - FNo a (u + 1)) (FNo a (u + 1)) (psh 0 (FNo a (u + 1)) ρ)
      have ea := psh_app (FNo a (u + 1)) 0 (FNo a (KK a).length - FNo a (u + 1)) ρ
      rw [Nat.zero_add, show FNo a (u + 1) + (FNo a (KK a).length - FNo a (u + 1)) = FNo a (KK a).length by rw [FNo_s]; omega, hρ'] at ea
      rw [ea] at hrc2
      have hrc3 := psh_rc (NB a u).length (FNo a u) ρc
      rw [ep] at hrc3
      have nr2 : NR (psh 0 (FNo a (u + 1)) ρ) := NR.psh _ _ hN
      refine eX6_prepare_81 nr.1 (ρ2 := psh 0 (FNo a (u + 1)) ρ) nr2.1 hrc2.1 hrc2.2 (Nat.le_trans hrc3.1 hrc2.1) (Nat.le_trans hrc3.2 hrc2.2) (fun k hk => hA k (by simp at hk; omega)) ?_
      have e7 : S1.1 70 7 = nI (FNo a u) := by rw [ne.1, NL_len]
      rw [ls.1, if_neg (nI_ge (by omega) (by omega)), nI_clamp (show u < 2 ^ 31 by omega), e7, nI_1, ls.2 u hu]
      refine ⟨vp_in_nI (by omega) (by omega), vp_in_nI (by omega) (by omega), ?_⟩
      have fr2 : Fr FNt S (setI S1 72 u (nI (FNo a u))) := fr.tr (Fr.setI (F := FNt) (k := 72) _ _ _ (Or.inl ⟨by decide, by decide⟩))
      have ls2 : LstC (KK a) (setI S1 72 u (nI (FNo a u))) := ls.of (by rw [setI_ne _ _ _ (by decide)]) rfl
      have ne2 : NeA ρc (NL a u) (setI S1 72 u (nI (FNo a u))) := by
        obtain ⟨kn', k1', k2'⟩ := ne.2
        obtain ⟨kn, k1, k2, k3, k4⟩ := nr.2.1
        rw [k1] at k1'
        rw [← Option.some.inj k1'] at k2'
        refine ⟨by rw [setI_ne _ _ _ (by decide)]; exact ne.1, kn, k1, fun t ht => ?_⟩
        rw [setI_ne _ _ _ (by unfold knO at k2; omega)]
        exact k2' t ht
      have hlen := NL_len a u
      refine sC_linkSwaps (P := NL a u) hA nr hW hR hn ls2 (fm fr2) hu ne2 (by rw [hlen]; exact hl) (by rw [hlen]; omega) (by rw [hlen]; exact ep) (fun S2 ne3 kn3 => ?_)
      have f3 : Fr FNt (setI S1 72 u (nI (FNo a u))) S2 := fun k hk => by
        unfold FNt at hk
        exact ⟨kn3.1 k (by omega) (by unfold knO; omega), kn3.2.1 k (by unfold knO; omega)⟩
      have kj : ∀ j, j ≠ 7 → S2.1 70 j = S1.1 70 j := fun j hj => by rw [kn3.2.2 j hj, setI_ne _ _ _ (by decide)]
      refine ih (u + 1) _ S2 (by omega) nr2 rfl ?_ ne3 (ls2.of (kn3.2.2 3 (by decide)) (kn3.2.1 71 (by unfold knO; omega))) (fun i hi => ?_) (fr2.tr f3) (by rw [kj 2 (by decide)]; exact e2) (by rw [kj 13 (by decide)]; exact e13) (by rw [kj 11 (by decide)]; exact e11)
      · rw [← ep, FNo_s]
        exact psh_len _ _ nr hl (by omega)
      · rw [kn3.1 72 (by decide) (by unfold knO; omega), setI_at]
        by_cases c : i = u
        · rw [if_pos ⟨rfl, c⟩, c]
        · rw [if_neg (fun z => c z.2)]; exact e72 i (by omega)
  -- the list
  have k1 : ∀ k i S1, k + i = (KK a).length → S1.1 70 3 = nI (KK a).length → (∀ j, j < i → S1.2 71 j = lN ((KK a).getD j 0)) → Fr FNt S S1 → S1.1 70 2 = 1 → S1.1 70 13 = -1 → S1.1 70 11 = -1 → AW g ρ' (QV Q) (d + 5 + 2) mX6_prepare 43 [(0, .ref 70), (1, .int (nI i))] [] ρ S1 := by
    intro k
    induction k with
    | zero =>
      intro i S1 hk e3 e71 fr e2 e13 e11
      refine eX6_prepare_43 hN.1 hrc.1 hrc.2 (fun k hk => hA k (by simp at hk; omega)) ?_
      rw [e3, if_pos (nI_le (by omega) (by omega))]
      obtain ⟨kn, q1, q2, q3, q4⟩ := hN.2.1
      have s7 : ∀ j, j ≠ 7 → (setI S1 70 7 0).1 70 j = S1.1 70 j := fun j hj => by rw [setI_at, if_neg (fun z => hj z.2)]
      refine k2 (KK a).length 0 ρ _ (by omega) hN rfl (Nat.zero_le _) ⟨?_, kn, q1, fun t ht => absurd ht (by simp [NL])⟩ ⟨?_, fun j hj => ?_⟩ (fun j hj => absurd hj (by omega)) (fr.tr (f70 7 0 _)) ?_ ?_ ?_
      · rw [setI_at, if_pos ⟨rfl, rfl⟩]; rfl
      · rw [s7 3 (by decide)]; exact e3
      · exact e71 j (by omega)
      · rw [s7 2 (by decide)]; exact e2
      · rw [s7 13 (by decide)]; exact e13
      · rw [s7 11 (by decide)]; exact e11
    | succ k ih =>
      intro i S1 hk e3 e71 fr e2 e13 e11
      refine eX6_prepare_43 hN.1 hrc.1 hrc.2 (fun k hk => hA k (by simp at hk; omega)) ?_
      rw [e3, if_neg (nI_ge (by omega) (by omega)), nI_clamp (show i < 2 ^ 31 by omega), nI_l (show i < 2 ^ 31 by omega), nI_1]
      refine sC_cellsOf hN.1 hW hR (ff fr) (by omega) ?_
      refine ⟨vp_in_nI (by omega) (by omega), ih (i + 1) _ (by omega) e3 (fun j hj => ?_) (fr.tr (Fr.setL (F := FNt) (k := 71) _ _ _ (Or.inl ⟨by decide, by decide⟩))) e2 e13 e11⟩
      rw [setL_at]
      by_cases c : j = i
      · rw [if_pos ⟨rfl, c⟩, c]
      · rw [if_neg (fun z => c z.2)]; exact e71 j (by omega)
  refine k1 (KK a).length 0 _ (by omega) ?_ (fun j hj => absurd hj (by omega)) (fr1.tr (f70 3 _ _)) ?_ ?_ ?_
  · rw [setI_at, if_pos ⟨rfl, rfl⟩]
  · simp [setI_at]
  · simp [setI_at]
  · simp [setI_at]
end PR
