-- ALL THAT IS COME TO FROM ONE, by the model
def adjW (a : AS) : Bool → Nat → Nat → Prop
  | true => adjT a
  | false => adjS a
def wI (w : Bool) : Int32 := if w = true then 1 else 0
theorem PB.step {n : Nat} {adj : Nat → Nat → Prop} {Q0 : List Nat} {s : Nat} {f : Nat → Nat} {q : List Nat} {h : Nat} (p : PB n adj Q0 s f q h) (hh : h < q.length) (hd : ∀ v, adj (q.getD h 0) v → v ∈ Q0 ∨ v ∈ q) : PB n adj Q0 s f q (h + 1) := ⟨p.1.step hh hd, p.2⟩
section MW
variable {g : GX} {d : Nat} {ρ : Rs} {S : St} {a : AS}
theorem sM_begins {Q : St → Prop} (hρ : Ok ρ) (hF : ∀ k ∈ ([80, 91] : List Nat), gF g k) (hG : MG a S) (hq : ∀ S', MG a S' → (∀ v, v < 1000 → S'.1 91 v = -1) → S'.1 80 36 = 0 → (∀ k, k ≠ 80 → k ≠ 91 → S'.1 k = S.1 k) → Q S') : CALLv g d mX12_begins [.ref 80] ρ ρ S Q := by
  refine eX12_begins hρ ?_
  have key : ∀ k i S1, k + i = 1000 → MG a S1 → (∀ v, v < i → S1.1 91 v = -1) → (∀ k, k ≠ 80 → k ≠ 91 → S1.1 k = S.1 k) → AW g ρ (QV Q) d mX12_begins 2 [(0, .ref 80), (1, .int (nI i))] [] ρ S1 := by
    intro k
    induction k with
    | zero =>
      intro i S1 hk g1 e1 k1
      refine eX12_begins_2 hρ hF ?_
      rw [if_pos (show (1000 : Int32) ≤ nI i from nI_le (a := 1000) (by omega) (by omega))]
      refine hq _ (g1.set rfl 0) (fun v hv => ?_) (by rw [setI_at, if_pos ⟨rfl, rfl⟩]) (fun k h1 h2 => ?_)
      · rw [setI_ne _ _ _ (by decide)]; exact e1 v (by omega)
      · rw [setI_ne _ _ _ h1]; exact k1 k h1 h2
    | succ k ih =>
      intro i S1 hk g1 e1 k1
      refine eX12_begins_2 hρ hF ?_
      rw [if_neg (show ¬ (1000 : Int32) ≤ nI i from nI_ge (b := 1000) (by omega) (by omega)), nI_clamp (by omega), nI_1]
      refine ⟨vp_in_nI (by omega) (by omega), ?_⟩
      refine ih (i + 1) _ (by omega) (g1.fr (F := fun k => k = 91) (by omega) (Fr.setI (F := fun k => k = 91) _ _ _ rfl)) (fun v hv => ?_) (fun k h1 h2 => ?_)
      · rw [setI_at]
        by_cases c : v = i
        · rw [if_pos ⟨rfl, c⟩]
        · rw [if_neg (fun z => c z.2)]; exact e1 v (by omega)
      · rw [setI_ne _ _ _ h2]; exact k1 k h1 h2
  exact key 1000 0 S (by omega) hG (fun v hv => absurd hv (by omega)) (fun k _ _ => rfl)
theorem sM_reach0 {Q : St → Prop} {Q0 : List Nat} {s : Nat} (hρ : Ok ρ) (hF : ∀ k ∈ ([91, 92, 80] : List Nat), gF g k) (hG : MG a S) (hn : (KK a).length ≤ 1000) (hs : s < (KK a).length) (h0 : Q0.Nodup) (h0n : ∀ v, v ∈ Q0 → v < (KK a).length) (hM : ∀ v, v < (KK a).length → (v ∈ Q0 → ∃ z, z < 2 ^ 31 ∧ S.1 91 v = nI z) ∧ (v ∉ Q0 → S.1 91 v = -1)) (h36 : S.1 80 36 = nI Q0.length) (hold : s ∈ Q0 → Q S) (hnew : s ∉ Q0 → ∀ S', MG a S' → SB 91 92 80 36 Q0.length 0 1 (KK a).length Q0 (fun _ => 0) [s] S' → Q S') : CALLv g d mX12_reaches [.ref 80, .int (nI s), .int 0] ρ ρ S Q := by
  refine eX12_reaches hρ hF ?_
  have vi : vp_in (nI s) 1000 := vp_in_nI (by omega) (by omega)
  rw [if_neg (show ¬ nI s < (0 : Int32) from nI_nlt (b := 0) (by omega) (by omega)), nI_clamp (show s < 2 ^ 31 by omega)]
  refine ⟨vi, ?_⟩
  by_cases c0 : s ∈ Q0
  · obtain ⟨z, z1, z2⟩ := (hM s hs).1 c0
    rw [z2, if_pos (show (0 : Int32) ≤ nI z from nI_le (a := 0) (by omega) (by omega))]
    exact hold c0
  · rw [(hM s hs).2 c0, if_neg (by decide)]
    have hl := (PB.start (adj := fun _ _ => False) c0 hs h0 h0n).len
    have hl : Q0.length + 1 ≤ (KK a).length := hl
    rw [h36, nI_clamp (show Q0.length < 2 ^ 31 by omega), nI_1]
    refine ⟨vi, vp_in_nI (by omega) (by omega), ?_⟩
    refine hnew c0 _ ?_ ⟨?_, fun k hk => ?_, fun v hv => ⟨fun hq => ?_, fun hq => ?_, fun q0 q1 => ?_⟩⟩
    · refine MG.set (MG.fr hG (F := fun k => k = 91 ∨ k = 92) (by omega) ((Fr.setI (F := fun k => k = 91 ∨ k = 92) _ _ _ (Or.inl rfl)).tr (Fr.setI (F := fun k => k = 91 ∨ k = 92) _ _ _ (Or.inr rfl)))) rfl _
    · rw [setI_at, if_pos ⟨rfl, rfl⟩]; rfl
    · have hk : k < 1 := hk
      rw [setI_ne _ _ _ (by decide), setI_at, if_pos ⟨rfl, by omega⟩, show k = 0 by omega]; rfl
    · rw [setI_ne _ _ _ (by decide), setI_ne _ _ _ (by decide), setI_at, if_pos ⟨rfl, List.mem_singleton.mp hq⟩]; rfl
    · rw [setI_ne _ _ _ (by decide), setI_ne _ _ _ (by decide), setI_at, if_neg (fun z => c0 (by rw [← z.2]; exact hq))]
      exact (hM v hv).1 hq
    · rw [setI_ne _ _ _ (by decide), setI_ne _ _ _ (by decide), setI_at, if_neg (fun z => q1 (by rw [z.2]; simp))]
      exact (hM v hv).2 q0
theorem sM_spreads {Q : Int32 → St → Prop} {Q0 : List Nat} {s : Nat} (w : Bool) (hρ : Ok ρ) (hF : ∀ k ∈ ([80, 90, 91, 92] : List Nat), gF g k) (hW : WF a) (hR : nR a ≠ 0) (hG : MG a S) (hn : (KK a).length ≤ 1000) (hs : s < (KK a).length) (h0 : Q0.Nodup) (h0n : ∀ v, v ∈ Q0 → v < (KK a).length) (hM : ∀ v, v < (KK a).length → (v ∈ Q0 → ∃ z, z < 2 ^ 31 ∧ S.1 91 v = nI z) ∧ (v ∉ Q0 → S.1 91 v = -1)) (h36 : S.1 80 36 = nI Q0.length) (hold : s ∈ Q0 → Q 0 S) (hnew : s ∉ Q0 → ∀ S' f q, MG a S' → PB (KK a).length (adjW a w) Q0 s f q q.length → SB 91 92 80 36 Q0.length 0 1 (KK a).length Q0 f q S' → Q (nI q.length) S') : CALLi g (d + 5) mX12_spreads [.ref 80, .int (nI s), .int (wI w)] ρ ρ S Q := by
  have hF3 : ∀ k ∈ ([91, 92, 80] : List Nat), gF g k := fun k hk => hF k (by simp at hk; rcases hk with z | z | z <;> simp [z])
  have l0 := nodup_len _ Q0 h0 h0n
  refine eX12_spreads hρ (sM_reach0 hρ hF3 hG hn hs h0 h0n hM h36 (fun c => ?_) (fun c S1 g1 s1 => ?_))
  · refine eX12_spreads_14 hρ ?_
    rw [h36, if_pos (nI_le (Nat.le_refl _) (by omega)), Int32.sub_self]
    exact hold c
  · rw [h36]
    have key : ∀ k h S1 f1 q1, k + h = (KK a).length → h ≤ q1.length → MG a S1 → PB (KK a).length (adjW a w) Q0 s f1 q1 h → SB 91 92 80 36 Q0.length 0 1 (KK a).length Q0 f1 q1 S1 → AW g ρ (QI Q) (d + 4 + 1) mX12_spreads 14 [(0, .ref 80), (2, .int (wI w)), (3, .int (nI Q0.length)), (4, .int (nI (Q0.length + h)))] [] ρ S1 := by
      intro k
      induction k with
      | zero =>
        intro h S1 f1 q1 hk hh g1 p1 s1
        have hl := p1.len
        refine eX12_spreads_14 hρ ?_
        have e : h = q1.length := by omega
        rw [s1.1, if_pos (nI_le (by omega) (by omega)), pk_sub (by omega), Nat.add_sub_cancel_left]
        refine hnew c S1 f1 q1 g1 ?_ s1
        rw [← e]; exact p1
      | succ k ih =>
        intro h S1 f1 q1 hk hh g1 p1 s1
        have hl := p1.len
        refine eX12_spreads_14 hρ ?_
        by_cases e : h = q1.length
        · rw [s1.1, if_pos (nI_le (by omega) (by omega)), pk_sub (by omega), Nat.add_sub_cancel_left]
          refine hnew c S1 f1 q1 g1 ?_ s1
          rw [← e]; exact p1
        · have hh : h < q1.length := by omega
          rw [s1.1, if_neg (nI_ge (by omega) (by omega)), nI_clamp (by omega), s1.2.1 h hh]
          refine ⟨vp_in_nI (by omega) (by omega), ?_⟩
          cases w with
          | false =>
            refine sM_swapsFrom hρ hF hW hR g1 hn p1 s1 (Nat.le_refl _) hh (fun i v z => z) (fun S2 f2 q2 g2 p2 s2 h2 e2 m2 d2 => ?_)
            rw [if_pos (show wI false = 0 from rfl), nI_1]
            refine ih (h + 1) S2 f2 q2 (by omega) h2 g2 (p2.step h2 (fun v hv => ?_)) s2
            rw [e2] at hv
            exact d2 v hv
          | true =>
            refine sM_swapsFrom hρ hF hW hR g1 hn p1 s1 (Nat.le_refl _) hh (fun i v z => adjS_T z) (fun S2 f2 q2 g2 p2 s2 h2 e2 m2 d2 => ?_)
            rw [if_neg (show ¬ wI true = 0 by decide), s2.2.1 h h2]
            refine ⟨vp_in_nI (by omega) (by omega), ?_⟩
            refine sM_turnsFrom hρ hF hW hR g2 hn p2 s2 (Nat.le_refl _) h2 (fun i v z => z) (fun S3 f3 q3 g3 p3 s3 h3 e3 m3 d3 => ?_)
            rw [nI_1]
            refine ih (h + 1) S3 f3 q3 (by omega) h3 g3 (p3.step h3 (fun v hv => ?_)) s3
            rw [e3] at hv
            rcases adjT_ex hW hv with z | ⟨r, s', t, x, y, z, k1, k2, k3, k4⟩
            · rw [e2] at z
              rcases d2 v z with y | y
              · exact Or.inl y
              · exact Or.inr (m3 v y)
            · rw [k4]
              exact d3 r s' t x y z ⟨k1, k2⟩ k3
    have := key (KK a).length 0 S1 (fun _ => 0) [s] (by omega) (Nat.zero_le _) g1 (PB.start c hs h0 h0n) s1
    exact this
end MW
