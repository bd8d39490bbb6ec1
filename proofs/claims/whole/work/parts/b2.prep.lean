-- THE CLASS'S NET MADE
theorem rch_sy {a : AS} (hW : WF a) (hR : nR a ≠ 0) {u v : Nat} (h : rch (adjS a) u v) : rch (adjS a) v u := by
  obtain ⟨m, hm⟩ := h
  exact ⟨m, pth_sy (adjS_sy hW hR) m u v hm⟩
theorem rch_tr {adj : Nat → Nat → Prop} {u v w : Nat} (h : rch adj u v) (k : rch adj v w) : rch adj u w := by
  obtain ⟨m, hm⟩ := h
  obtain ⟨n, hn⟩ := k
  exact ⟨m + n, pth_tr hm n w hn⟩
/-- the least that leads to v -/
def hdA (a : AS) (v j : Nat) : Prop := rch (adjS a) j v ∧ ∀ i, i < j → ¬ rch (adjS a) i v
/-- the net stands in the store -/
def IN (a : AS) (ρ : Rs) (S : St) : Prop := (∃ kn, rR ρ 70 6 = some kn ∧ CN a kn S) ∧ FNo a (KK a).length ≤ nlen ρ ∧ S.1 70 10 = nI (cntC (adjS a) (KK a).length) ∧ (∀ v, v < (KK a).length → ∃ j, j < (KK a).length ∧ S.1 74 v = nI j ∧ hdA a v j) ∧ (∀ j, j < (KK a).length → hdN (adjS a) j → ∃ q, RC (adjS a) j q ∧ S.1 75 j = nI q.length) ∧ (S.1 70 11 = -1 ∨ S.1 70 11 = nI (cntC (adjT a) (KK a).length)) ∧ (S.1 70 13 = -1 ∨ ∃ s, s < (KK a).length ∧ S.1 70 13 = nI s ∧ DM (adjS a) (KK a).length s (S.1 76))
def FNt (k : Nat) : Prop := (70 ≤ k ∧ k ≤ 79) ∨ 95 ≤ k
def NL (a : AS) : Nat → List Nat
  | 0 => []
  | i + 1 => NL a i ++ NB a i
theorem NL_len (a : AS) : ∀ i, (NL a i).length = FNo a i
  | 0 => rfl
  | i + 1 => by
    show (NL a i ++ NB a i).length = _
    rw [List.length_append, NL_len a i, FNo_s]
theorem getD_r {L M : List Nat} {i : Nat} : (L ++ M).getD (L.length + i) 0 = M.getD i 0 := by
  rw [List.getD_eq_getElem?_getD, List.getD_eq_getElem?_getD, List.getElem?_append_right (Nat.le_add_right _ _), Nat.add_sub_cancel_left]
theorem NL_at (a : AS) {i t : Nat} (ht : t < (NB a i).length) : ∀ n, i < n → (NL a n).getD (FNo a i + t) 0 = (NB a i).getD t 0
  | 0, h => absurd h (by omega)
  | n + 1, h => by
    show (NL a n ++ NB a n).getD (FNo a i + t) 0 = _
    by_cases c : i = n
    · rw [c] at ht ⊢
      rw [← NL_len, getD_r]
    · have hm : ∀ k, i + 1 ≤ k → FNo a (i + 1) ≤ FNo a k := by
        intro k
        induction k with
        | zero => intro q; omega
        | succ k ih =>
          intro q
          by_cases e : i + 1 = k + 1
          · rw [e]; exact Nat.le_refl _
          · rw [FNo_s a k]
            have := ih (by omega)
            omega
      have := hm n (by omega)
      rw [FNo_s] at this
      rw [getD_l (by rw [NL_len]; omega)]
      exact NL_at a ht n (by omega)
section PR
variable {g : GX} {d : Nat} {ρ : Rs} {S : St} {a : AS}
theorem sC_split {Q : St → Prop} {kn nn : Nat} (hρ : Ok ρ) (hA : ∀ k, 16 ≤ k → gF g k) (hR6 : rR ρ 70 6 = some kn) (hkn : kn < rn ρ) (hsn : shp ρ kn = .inr (0, nn)) (hko : knO kn) (hnn : FNo a (KK a).length ≤ nn) (hnx : nn < 2 ^ 31) (hW : WF a) (hR : nR a ≠ 0) (hn : (KK a).length ≤ 1000) (hC : CN a kn S) (hq : ∀ S', CN a kn S' → S'.1 70 10 = nI (cntC (adjS a) (KK a).length) → (∀ v, v < (KK a).length → ∃ j, j < (KK a).length ∧ S'.1 74 v = nI j ∧ hdA a v j) → (∀ j, j < (KK a).length → hdN (adjS a) j → ∃ q, RC (adjS a) j q ∧ S'.1 75 j = nI q.length) → (∀ j, j ≠ 10 → j ≠ 15 → S'.1 70 j = S.1 70 j) → Fr FNt S S' → Q S') : CALLv g (d + 2) mX6_splitIntoClasses [.ref 70] ρ ρ S Q := by
  have ko : kn ≠ 70 ∧ kn ≠ 74 ∧ kn ≠ 75 ∧ kn ≠ 77 := by unfold knO at hko; omega
  refine eX6_splitIntoClasses hρ (fun k hk => hA k (by simp at hk; omega)) ?_
  refine sJ_fill (k := 74) (n := 1000) hρ (by decide) (by decide) rfl (by decide) (hA 74 (by decide)) (fun S1 f1 r1 v1 => ?_)
  have key : ∀ k i S2 Q0, k + i = (KK a).length → CN a kn S2 → Q0.Nodup → (∀ v, v ∈ Q0 → v < (KK a).length) → VK (adjS a) i Q0 → (∀ u v, u ∈ Q0 → adjS a u v → v ∈ Q0) → (∀ v, v < (KK a).length → (v ∈ Q0 → ∃ j, j < (KK a).length ∧ S2.1 74 v = nI j ∧ hdA a v j) ∧ (v ∉ Q0 → S2.1 74 v = -1)) → S2.1 70 10 = nI (cntC (adjS a) i) → (∀ j, j < i → hdN (adjS a) j → ∃ q, RC (adjS a) j q ∧ S2.1 75 j = nI q.length) → (∀ j, j ≠ 10 → j ≠ 15 → S2.1 70 j = S.1 70 j) → Fr FNt S S2 → AW g ρ (QV Q) (d + 1 + 1) mX6_splitIntoClasses 15 [(0, .ref 70), (1, .int (nI i))] [] ρ S2 := by
    intro k
    induction k with
    | zero =>
      intro i S2 Q0 hk c2 n2 b2 v2 cl m2 e10 e75 k70 fr
      have ei : i = (KK a).length := by omega
      refine eX6_splitIntoClasses_15 hρ (fun k hk => hA k (by simp at hk; omega)) ?_
      rw [c2.1.1, if_pos (nI_le (by omega) (by omega))]
      refine hq S2 c2 (by rw [← ei]; exact e10) (fun v hv => (m2 v hv).1 ((v2 v).mpr ⟨v, 0, by omega, rfl⟩)) (fun j hj => e75 j (by omega)) k70 fr
    | succ k ih =>
      intro i S2 Q0 hk c2 n2 b2 v2 cl m2 e10 e75 k70 fr
      have hi : i < (KK a).length := by omega
      refine eX6_splitIntoClasses_15 hρ (fun k hk => hA k (by simp at hk; omega)) ?_
      rw [c2.1.1, if_neg (nI_ge (by omega) (by omega)), nI_clamp (show i < 2 ^ 31 by omega)]
      refine ⟨vp_in_nI (by omega) (by omega), ?_⟩
      by_cases c0 : i ∈ Q0
      · obtain ⟨j, j1, j2, j3⟩ := (m2 i hi).1 c0
        have hnh : ¬ hdN (adjS a) i := fun z => (v2.hd.mp z) c0
        rw [j2, if_neg (nI_ne1 (by omega)), nI_1]
        refine ih (i + 1) S2 Q0 (by omega) c2 n2 b2 (v2.old cl c0) cl m2 (by rw [cntC_n hnh]; exact e10) (fun j hj hd => ?_) k70 fr
        by_cases e : j = i
        · rw [e] at hd; exact absurd hd hnh
        · exact e75 j (by omega) hd
      · rw [(m2 i hi).2 c0, if_pos rfl, e10, nI_1]
        have c3 : CN a kn (setI S2 70 10 (nI (cntC (adjS a) i + 1))) := by
          refine ⟨c2.1.of (by rw [setI_at, if_neg (by omega)]) rfl, fun j hj => ?_, fun j hj t ht => ?_⟩
          · rw [setI_ne _ _ _ (by decide)]; exact c2.2.1 j hj
          · rw [setI_ne _ _ _ ko.1]; exact c2.2.2 j hj t ht
        refine sC_spread (w := 0) (nn := nn) hρ hA (Or.inl rfl) hR6 hkn hsn hko hnn hnx hW hR hn c3 hi c0 n2 b2 (fun v hv => ?_) (by omega) (fun S3 f q p3 pb sb o3 => ?_)
        · rw [setI_ne _ _ _ (by decide)]
          refine ⟨fun z => ?_, (m2 v hv).2⟩
          obtain ⟨j, j1, j2, -⟩ := (m2 v hv).1 z
          exact ⟨j, by omega, j2⟩
        refine ⟨vp_in_nI (by omega) (by omega), ?_⟩
        have c4 : CN a kn S3 := c3.kp (Or.inl rfl) hko p3
        obtain ⟨v4, cl4⟩ := v2.new cl pb.1
        have hRC : RC (adjS a) i q := by
          refine ⟨pb.1.1, fun v => ⟨fun z => ⟨f v, pb.1.2.2.2.2.2.2.1 v z⟩, fun ⟨m, hm⟩ => ?_⟩⟩
          rcases pb.1.done cl m v hm with z | z
          · obtain ⟨j, m', hj, hp⟩ := (v2 v).mp z
            have h1 : rch (adjS a) j i := rch_tr ⟨m', hp⟩ (rch_sy hW hR ⟨m, hm⟩)
            obtain ⟨m'', h2⟩ := h1
            exact absurd ((v2 i).mpr ⟨j, m'', hj, h2⟩) c0
          · exact z.1
        rw [nI_1]
        have s15 := sb.1
        rw [Nat.zero_add] at s15
        refine ih (i + 1) _ (Q0 ++ q) (by omega) ?_ pb.nd (fun v hv => ?_) v4 cl4 (fun v hv => ⟨fun z => ?_, fun z => ?_⟩) ?_ (fun j hj hd => ?_) (fun j h1 h2 => ?_) ?_
        · refine ⟨c4.1.of (by rw [setI_ne _ _ _ (by decide)]) rfl, fun j hj => ?_, fun j hj t ht => ?_⟩
          · rw [setI_ne _ _ _ (by decide)]; exact c4.2.1 j hj
          · rw [setI_ne _ _ _ ko.2.2.1]; exact c4.2.2 j hj t ht
        · rcases List.mem_append.mp hv with z | z
          · exact b2 v z
          · exact pb.2.1 v z
        · rw [setI_ne _ _ _ (by decide)]
          by_cases zq : v ∈ q
          · refine ⟨i, hi, ?_, ⟨f v, pb.1.2.2.2.2.2.2.1 v zq⟩, fun j hj hr => ?_⟩
            · have := (sb.2.2 v hv).1 zq
              rw [Nat.zero_mul, Nat.add_zero] at this
              exact this
            · obtain ⟨m, hm⟩ := hr
              exact pb.1.2.1 v zq ((v2 v).mpr ⟨j, m, hj, hm⟩)
          · have z0 : v ∈ Q0 := by
              rcases List.mem_append.mp z with y | y
              · exact y
              · exact absurd y zq
            obtain ⟨j, j1, j2, j3⟩ := (m2 v hv).1 z0
            refine ⟨j, j1, ?_, j3⟩
            rw [o3 v z0, setI_ne _ _ _ (by decide)]
            exact j2
        · rw [setI_ne _ _ _ (by decide)]
          rw [List.mem_append] at z
          exact (sb.2.2 v hv).2.2 (fun y => z (Or.inl y)) (fun y => z (Or.inr y))
        · rw [setI_ne _ _ _ (by decide), p3.2.1 10 (by decide), setI_at, if_pos ⟨rfl, rfl⟩, cntC_y (v2.hd.mpr c0)]
        · rw [setI_at]
          by_cases e : j = i
          · rw [if_pos ⟨rfl, e⟩, e, s15]
            exact ⟨q, hRC, rfl⟩
          · rw [if_neg (fun z => e z.2), p3.1 75 (by decide) (by decide) (by decide), setI_ne _ _ _ (by decide)]
            exact e75 j (by omega) hd
        · rw [setI_ne _ _ _ (by decide), p3.2.1 j h2, setI_at, if_neg (fun z => h1 z.2)]
          exact k70 j h1 h2
        · refine fr.tr (Fr.tr (Fr.tr (Fr.setI (F := FNt) _ _ _ (Or.inl ⟨by decide, by decide⟩)) (fun k hk => ?_)) (Fr.setI (F := FNt) _ _ _ (Or.inl ⟨by decide, by decide⟩)))
          unfold FNt at hk
          exact ⟨p3.1 k (by omega) (by omega) (by omega), by rw [p3.2.2]⟩
  have c1 : CN a kn (setI S1 70 10 0) := by
    refine ⟨hC.1.of (by rw [setI_at, if_neg (by omega), (r1 70 (by decide)).1]) (by show S1.2 71 = _; rw [v1]), fun j hj => ?_, fun j hj t ht => ?_⟩
    · rw [setI_ne _ _ _ (by decide), (r1 72 (by decide)).1]; exact hC.2.1 j hj
    · rw [setI_ne _ _ _ ko.1, (r1 kn ko.2.1).1]; exact hC.2.2 j hj t ht
  refine key (KK a).length 0 _ [] (by omega) c1 List.nodup_nil (fun v hv => absurd hv (by simp)) (fun v => ⟨fun z => absurd z (by simp), fun ⟨j, m, h1, _⟩ => absurd h1 (by omega)⟩) (fun u v z => absurd z (by simp)) (fun v hv => ⟨fun z => absurd z (by simp), fun _ => ?_⟩) ?_ (fun j hj => absurd hj (by omega)) (fun j h1 h2 => ?_) ?_
  · rw [setI_ne _ _ _ (by decide)]; exact f1 v (by omega)
  · rw [setI_at, if_pos ⟨rfl, rfl⟩]; rfl
  · rw [setI_at, if_neg (fun z => h1 z.2), (r1 70 (by decide)).1]
  · exact Fr.tr (r1.mono (fun k hk => Or.inl (by omega))) (Fr.setI (F := FNt) _ _ _ (Or.inl ⟨by decide, by decide⟩))
end PR
