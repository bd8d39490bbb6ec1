-- CLASSES BY SWAPS AND TURNS, by the class
theorem MV_frM {a : AS} (hW : WF a) {m : MVt} (h : m ∈ SWs a ++ TNs a) : frM a m ∧ m4 m ∧ okM m := by
  rcases List.mem_append.mp h with z | z
  · exact SWs_frM hW z
  · exact TNs_frM hW z
theorem mvD_mem {L : List MVt} {i : Nat} (h : i < L.length) : L.getD i mv0 ∈ L := by
  rw [List.getD_eq_getElem?_getD, List.getElem?_eq_getElem h]
  exact List.getElem_mem h
theorem cntC_mono {adj adj' : Nat → Nat → Prop} (h : ∀ u v, adj u v → adj' u v) : ∀ n, cntC adj' n ≤ cntC adj n
  | 0 => Nat.le_refl _
  | n + 1 => by
    have hp : ∀ m u v, pth adj m u v → pth adj' m u v := by
      intro m
      induction m with
      | zero => intro u v z; exact z
      | succ m ih =>
        intro u v ⟨w, z1, z2⟩
        exact ⟨w, ih u w z1, h w v z2⟩
    have := cntC_mono h n
    by_cases c : hdN adj' n
    · have c' : hdN adj n := fun ⟨j, m, h1, h2⟩ => c ⟨j, m, h1, hp m j n h2⟩
      rw [cntC_y c, cntC_y c']
      omega
    · rw [cntC_n c]
      by_cases c' : hdN adj n
      · rw [cntC_y c']; omega
      · rw [cntC_n c']; omega
theorem cntC_pos {adj : Nat → Nat → Prop} : ∀ n, 0 < n → 1 ≤ cntC adj n
  | 0, h => absurd h (by omega)
  | n + 1, _ => by
    by_cases c : n = 0
    · rw [c, cntC_y (fun ⟨j, _, h, _⟩ => absurd h (by omega))]
      omega
    · have := cntC_pos (adj := adj) n (by omega)
      by_cases c2 : hdN adj n
      · rw [cntC_y c2]; omega
      · rw [cntC_n c2]; exact this
section CJ
variable {g : GX} {d : Nat} {ρ : Rs} {S : St} {a : AS} {Q0 : List Nat} {s : Nat}
theorem sC_spreadAll {Q : St → Prop} (hρ : Ok ρ) (hA : ∀ k, 16 ≤ k → gF g k) (hW : WF a) (hR : nR a ≠ 0) (hn : (KK a).length ≤ 1000) (hL : LstC (KK a) S) (hMv : MVd a S) (hs : s < (KK a).length) (c0 : s ∉ Q0) (h0 : Q0.Nodup) (h0n : ∀ v, v ∈ Q0 → v < (KK a).length) (hM : ∀ v, v < (KK a).length → (v ∈ Q0 → ∃ z, z < 2 ^ 31 ∧ S.1 76 v = nI z) ∧ (v ∉ Q0 → S.1 76 v = -1)) (hq : ∀ S' f q, KP 76 S S' → PB (KK a).length (adjT a) Q0 s f q q.length → SB 76 77 70 15 0 0 0 (KK a).length Q0 f q S' → Q S') : CALLv g (d + 6) mX6_spreadByAll [.ref 70, .int (nI s)] ρ ρ S Q := by
  have hml := MV_all hW
  refine eX6_spreadByAll hρ (fun k hk => hA k (by simp at hk; omega)) (sC_reach0 (b := 0) (w := 0) hρ hA (Or.inr rfl) hn hs c0 hM rfl (fun S1 p1 s1 _ => ?_))
  have kl : ∀ {S'}, KP 76 S S' → LstC (KK a) S' := fun p => hL.of (p.2.1 3 (by decide)) (by rw [p.2.2])
  have km : ∀ {S'}, KP 76 S S' → MVd a S' := fun p => hMv.of (fun k h1 h2 => ⟨p.1 k (by omega) (by omega) (by omega), by rw [p.2.2]⟩)
  have key : ∀ k h S1 f1 q1, k + h = (KK a).length → h ≤ q1.length → KP 76 S S1 → PB (KK a).length (adjT a) Q0 s f1 q1 h → SB 76 77 70 15 0 0 0 (KK a).length Q0 f1 q1 S1 → AW g ρ (QV Q) (d + 4 + 2) mX6_spreadByAll 17 [(0, .ref 70), (2, .int (nI h))] [] ρ S1 := by
    intro k
    induction k with
    | zero =>
      intro h S1 f1 q1 hk1 hh p1 pb sb
      have hl := pb.len
      refine eX6_spreadByAll_17 hρ ?_
      rw [sb.1, Nat.zero_add, if_pos (nI_le (by omega) (by omega))]
      refine hq S1 f1 q1 p1 ?_ sb
      rw [← show h = q1.length by omega]; exact pb
    | succ k ih =>
      intro h S1 f1 q1 hk1 hh p1 pb sb
      have hl := pb.len
      refine eX6_spreadByAll_17 hρ ?_
      rw [sb.1, Nat.zero_add]
      by_cases e : h = q1.length
      · rw [if_pos (nI_le (by omega) (by omega))]
        refine hq S1 f1 q1 p1 ?_ sb
        rw [← e]; exact pb
      have hh : h < q1.length := by omega
      have hu : q1.getD h 0 < (KK a).length := pb.2.1 _ (getD_mem hh)
      have eq := sb.2.1 h hh
      rw [Nat.zero_add] at eq
      rw [if_neg (nI_ge (by omega) (by omega)), if_neg (show ¬ (1000 : Int32) ≤ nI h from nI_ge (b := 1000) (by omega) (by omega)), nI_clamp (show h < 2 ^ 31 by omega), eq, nI_clamp (show q1.getD h 0 < 2 ^ 31 by omega), (kl p1).2 _ hu]
      refine ⟨vp_in_nI (by omega) (by omega), vp_in_nI (by omega) (by omega), ?_⟩
      generalize eu : q1.getD h 0 = u at hu
      have hpu := (KK_tab hW hR (getD_mem hu)).2.2
      have hu16 : ∀ y x, unp ((KK a).getD u 0) y x < 16 := fun y x => unp_lt _ _ _
      have inn : ∀ m t S2 f2 q2, m + t = (SWs a ++ TNs a).length → KP 76 S S2 → PB (KK a).length (adjT a) Q0 s f2 q2 h → SB 76 77 70 15 0 0 0 (KK a).length Q0 f2 q2 S2 → h < q2.length → q2.getD h 0 = u → (∀ t', t' < t → mvC (unp ((KK a).getD u 0)) ((SWs a ++ TNs a).getD t' mv0) = true → nxI a u ((SWs a ++ TNs a).getD t' mv0) ∈ Q0 ∨ nxI a u ((SWs a ++ TNs a).getD t' mv0) ∈ q2) → AW g ρ (QV Q) (d + 4 + 2) mX6_spreadByAll 48 [(0, .ref 70), (2, .int (nI h)), (3, .long (lN ((KK a).getD u 0))), (5, .int (nI t))] [] ρ S2 := by
        intro m
        induction m with
        | zero =>
          intro t S2 f2 q2 hm p2 pb2 sb2 h2 e2 d2
          refine eX6_spreadByAll_48 hρ ?_
          rw [(km p2).2.2.1, if_pos (nI_le (by omega) (by omega)), nI_1]
          refine ih (h + 1) S2 f2 q2 (by omega) h2 p2 (pb2.step h2 (fun v hv => ?_)) sb2
          rw [e2] at hv
          obtain ⟨a1, a2, mm, m1, m2, m3⟩ := hv
          obtain ⟨t', ht', et⟩ := List.getElem_of_mem m1
          have eg : (SWs a ++ TNs a).getD t' mv0 = mm := by
            rw [List.getD_eq_getElem?_getD, List.getElem?_eq_getElem ht']
            exact et
          have := d2 t' (by omega)
          rw [eg] at this
          have ev : nxI a u mm = v := by
            unfold nxI
            rw [← m3, KK_rk a2]
          rw [ev] at this
          exact this m2
        | succ m ihm =>
          intro t S2 f2 q2 hm p2 pb2 sb2 h2 e2 d2
          have htl : t < (SWs a ++ TNs a).length := by omega
          have hok := MV_frM hW (mvD_mem htl)
          refine eX6_spreadByAll_48 hρ ?_
          rw [(km p2).2.2.1, if_neg (nI_ge (by omega) (by omega)), nI_clamp (show t < 2 ^ 31 by omega)]
          have hc : ∀ {Q' : Int32 → St → Prop}, Q' (if mvC (unp ((KK a).getD u 0)) ((SWs a ++ TNs a).getD t mv0) = true then 1 else 0) S2 → CALLi g (d + 4 + 1) mX5_can [.ref 26, .long (lN ((KK a).getD u 0)), .int (nI t)] ρ ρ S2 Q' := fun hq' => by
            have h1 := sC_can (g := g) (d := d + 1) hρ (km p2).2.2 htl hml hu16 hok.2.1 hq'
            rw [hpu] at h1
            exact h1
          refine hc ?_
          by_cases c : mvC (unp ((KK a).getD u 0)) ((SWs a ++ TNs a).getD t mv0) = true
          · rw [if_pos c, if_neg (by decide), ((km p2).2.2.2 t htl).1]
            obtain ⟨j1, j2, j3⟩ := mvT_KK hW hR hok (getD_mem hu) c
            have hnx := KK_idx j1
            have ex : nxI a u ((SWs a ++ TNs a).getD t mv0) = rkK a (pack (mvT ((SWs a ++ TNs a).getD t mv0) (unp ((KK a).getD u 0)))) := rfl
            rw [← ex] at hnx
            rw [j3, ← hnx.2]
            refine ⟨vp_in_nI (by omega) (by omega), ?_⟩
            refine sC_find hρ (kl p2) (KK_sorted a) (fun p hp => (KK_mem.mp hp).1) hn hnx.1 ?_
            have ha : adjT a u (nxI a u ((SWs a ++ TNs a).getD t mv0)) := adjT_mem hW hR hu (mvD_mem htl) c
            refine sC_reach hρ hA (Or.inr rfl) hn pb2 sb2 (by omega) h2 hnx.1 (by rw [e2]; exact ha) (by rw [Nat.zero_mul]; rfl) (fun S3 f3 q3 p3 pb3 sb3 h3 e3 _ m3 d3 _ => ?_)
            rw [nI_1]
            refine ihm (t + 1) S3 f3 q3 (by omega) (p2.tr p3) pb3 sb3 h3 (e3.trans e2) (fun t' ht' hc' => ?_)
            by_cases ct : t' = t
            · rw [ct]; exact d3
            · rcases d2 t' (by omega) hc' with z | z
              · exact Or.inl z
              · exact Or.inr (m3 _ z)
          · rw [if_neg c, if_pos rfl, nI_1]
            refine ihm (t + 1) S2 f2 q2 (by omega) p2 pb2 sb2 h2 e2 (fun t' ht' hc' => ?_)
            by_cases ct : t' = t
            · rw [ct] at hc'; exact absurd hc' c
            · exact d2 t' (by omega) hc'
      exact inn (SWs a ++ TNs a).length 0 S1 f1 q1 (by omega) p1 pb sb hh eu (fun t' ht' => absurd ht' (by omega))
  exact key (KK a).length 0 S1 (fun _ => 0) [s] (by omega) (Nat.zero_le _) p1 (PB.start c0 hs h0 h0n) s1
theorem sC_countJoined {Q : Int32 → St → Prop} (hρ : Ok ρ) (hA : ∀ k, 16 ≤ k → gF g k) (hW : WF a) (hR : nR a ≠ 0) (hn : (KK a).length ≤ 1000) (hL : LstC (KK a) S) (hMv : MVd a S) (hq : ∀ S', KP 76 (setI S 70 13 (-1)) S' → Q (nI (cntC (adjT a) (KK a).length)) S') : CALLi g (d + 7) mX6_countJoined [.ref 70] ρ ρ S Q := by
  refine eX6_countJoined hρ (fun k hk => hA k (by simp at hk; omega)) ?_
  refine sJ_fill (k := 76) (n := 1000) hρ (by decide) (by decide) rfl (by decide) (hA 76 (by decide)) (fun S1 f1 r1 v1 => ?_)
  have p1 : KP 76 (setI S 70 13 (-1)) S1 := ⟨fun k h1 _ _ => (r1 k h1).1, fun j _ => by rw [(r1 70 (by decide)).1], v1⟩
  have kl : ∀ {S'}, KP 76 (setI S 70 13 (-1)) S' → LstC (KK a) S' := fun p => hL.of (by rw [p.2.1 3 (by decide), setI_at, if_neg (by omega)]) (by rw [p.2.2]; rfl)
  have km : ∀ {S'}, KP 76 (setI S 70 13 (-1)) S' → MVd a S' := fun p => hMv.of (fun k h1 h2 => ⟨by rw [p.1 k (by omega) (by omega) (by omega), setI_ne _ _ _ (by omega)], by rw [p.2.2]; rfl⟩)
  have key : ∀ k i S1 Q0, k + i = (KK a).length → KP 76 (setI S 70 13 (-1)) S1 → Q0.Nodup → (∀ v, v ∈ Q0 → v < (KK a).length) → VK (adjT a) i Q0 → (∀ u v, u ∈ Q0 → adjT a u v → v ∈ Q0) → (∀ v, v < (KK a).length → (v ∈ Q0 → ∃ z, z < 2 ^ 31 ∧ S1.1 76 v = nI z) ∧ (v ∉ Q0 → S1.1 76 v = -1)) → AW g ρ (QI Q) (d + 5 + 2) mX6_countJoined 17 [(0, .ref 70), (1, .int (nI (cntC (adjT a) i))), (2, .int (nI i))] [] ρ S1 := by
    intro k
    induction k with
    | zero =>
      intro i S1 Q0 hk p1 n1 b1 v1 c1 m1
      refine eX6_countJoined_17 hρ ?_
      rw [(kl p1).1, if_pos (nI_le (by omega) (by omega)), show i = (KK a).length by omega]
      exact hq S1 p1
    | succ k ih =>
      intro i S1 Q0 hk p1 n1 b1 v1 c1 m1
      have hi : i < (KK a).length := by omega
      refine eX6_countJoined_17 hρ ?_
      rw [(kl p1).1, if_neg (nI_ge (by omega) (by omega)), nI_clamp (show i < 2 ^ 31 by omega)]
      refine ⟨vp_in_nI (by omega) (by omega), ?_⟩
      by_cases c0 : i ∈ Q0
      · obtain ⟨z, z1, z2⟩ := (m1 i hi).1 c0
        rw [z2, if_neg (nI_ne1 z1), nI_1, ← cntC_n (show ¬ hdN (adjT a) i from fun z => (v1.hd.mp z) c0)]
        exact ih (i + 1) S1 Q0 (by omega) p1 n1 b1 (v1.old c1 c0) c1 m1
      · rw [(m1 i hi).2 c0, if_pos rfl]
        refine sC_spreadAll hρ hA hW hR hn (kl p1) (km p1) hi c0 n1 b1 m1 (fun S3 f q p3 pb sb => ?_)
        rw [nI_1, nI_1, ← cntC_y (v1.hd.mpr c0)]
        obtain ⟨v3, c3⟩ := v1.new c1 pb.1
        refine ih (i + 1) S3 (Q0 ++ q) (by omega) (p1.tr p3) pb.nd (fun v hv => ?_) v3 c3 (fun v hv => ⟨fun z => ?_, fun z => ?_⟩)
        · rcases List.mem_append.mp hv with z | z
          · exact b1 v z
          · exact pb.2.1 v z
        · rcases List.mem_append.mp z with y | y
          · exact (sb.2.2 v hv).2.1 y
          · exact ⟨0, by omega, by have := (sb.2.2 v hv).1 y; rw [Nat.zero_mul] at this; exact this⟩
        · rw [List.mem_append] at z
          exact (sb.2.2 v hv).2.2 (fun y => z (Or.inl y)) (fun y => z (Or.inr y))
  exact key (KK a).length 0 S1 [] (by omega) p1 List.nodup_nil (fun v hv => absurd hv (by simp)) (fun v => ⟨fun z => absurd z (by simp), fun ⟨j, m, h1, _⟩ => absurd h1 (by omega)⟩) (fun u v z => absurd z (by simp)) (fun v hv => ⟨fun z => absurd z (by simp), fun _ => f1 v (by omega)⟩)
theorem sC_joinedTotal {Q : Int32 → St → Prop} (hA : ∀ k, 16 ≤ k → gF g k) (hN : NR ρ) (hW : WF a) (hR : nR a ≠ 0) (hn : (KK a).length ≤ 1000) (hI : IN a ρ S) (hMv : MVd a S) (h : ∀ S', IN a ρ S' → S'.1 70 2 = S.1 70 2 → Fr FNt S S' → Q (nI (cntC (adjT a) (KK a).length)) S') : CALLi g (d + 8) mX6_joinedTotal [.ref 70] ρ ρ S Q := by
  obtain ⟨kn, k1, c1⟩ := id hI.1
  have hcl := cntC_le (adj := adjT a) (KK a).length
  have hcl2 := cntC_le (adj := adjS a) (KK a).length
  have h0 := (KK_cel hW hR).1
  refine eX6_joinedTotal hN.1 (fun k hk => hA k (by simp at hk; omega)) ?_
  by_cases c : S.1 70 11 = -1
  rotate_left
  · rw [if_neg c]
    rcases hI.2.2.2.2.2.1 with z | z
    · exact absurd z c
    · rw [z]; exact h S hI rfl (Fr.rf S)
  rw [if_pos c, hI.2.2.1]
  have f70 : ∀ j v S, Fr FNt S (setI S 70 j v) := fun j v S => Fr.setI (F := FNt) (k := 70) _ _ _ (Or.inl ⟨by decide, by decide⟩)
  generalize eCS : cntC (adjS a) (KK a).length = cS at hcl2
  by_cases c1' : cS ≤ 1
  · rw [if_pos (show nI cS ≤ (1 : Int32) from nI_le (b := 1) c1' (by omega))]
    have e : cS = cntC (adjT a) (KK a).length := by
      have h1 := cntC_mono (fun u v z => adjS_T (a := a) (i := u) (v := v) z) (KK a).length
      have h2 := cntC_pos (adj := adjT a) (KK a).length (by omega)
      rw [eCS] at h1
      omega
    rw [e]
    refine h _ (hI.of hN (fun k hk => setI_ne _ _ _ (by unfold knO at hk; omega)) rfl (by rw [setI_at, if_neg (by omega)]) (by rw [setI_at, if_neg (by omega)]) (Or.inr (by rw [setI_at, if_pos ⟨rfl, rfl⟩])) ?_) (by rw [setI_at, if_neg (by omega)]) (f70 _ _ _)
    rw [setI_at, if_neg (by omega), setI_ne _ _ _ (by decide)]
    exact hI.2.2.2.2.2.2
  · rw [if_neg (show ¬ nI cS ≤ (1 : Int32) from nI_ge (a := 1) (by omega) (by omega))]
    refine sC_countJoined hN.1 hA hW hR hn c1.1 hMv (fun S1 p1 => ?_)
    have e70 : ∀ j, j ≠ 11 → j ≠ 13 → j ≠ 15 → (setI S1 70 11 (nI (cntC (adjT a) (KK a).length))).1 70 j = S.1 70 j := fun j h1 h2 h3 => by rw [setI_at, if_neg (fun z => h1 z.2), p1.2.1 j h3, setI_at, if_neg (fun z => h2 z.2)]
    refine h _ (hI.of hN (fun k hk => ?_) ?_ (e70 3 (by decide) (by decide) (by decide)) (e70 10 (by decide) (by decide) (by decide)) (Or.inr (by rw [setI_at, if_pos ⟨rfl, rfl⟩])) (Or.inl ?_)) (e70 2 (by decide) (by decide) (by decide)) ?_
    · have hk2 : k ≠ 70 ∧ k ≠ 76 ∧ k ≠ 77 := by unfold knO at hk; omega
      rw [setI_ne _ _ _ hk2.1, p1.1 k hk2.2.1 hk2.2.2 hk2.1, setI_ne _ _ _ hk2.1]
    · show S1.2 71 = _
      rw [p1.2.2]; rfl
    · rw [setI_at, if_neg (by omega), p1.2.1 13 (by decide), setI_at, if_pos ⟨rfl, rfl⟩]
    · refine Fr.tr (S1 := S1) (fun k hk => ?_) (f70 _ _ _)
      unfold FNt at hk
      exact ⟨by rw [p1.1 k (by omega) (by omega) (by omega), setI_ne _ _ _ (by omega)], by rw [p1.2.2]; rfl⟩
end CJ
