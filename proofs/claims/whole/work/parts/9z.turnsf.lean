-- TURNS, by the model
def mT (c : Nat) : MVt := (c / 1024, c / 256 % 4, c / 64 % 4, c / 16 % 4, c / 4 % 4, c % 4)
def vT (a : AS) (c : Nat) : Prop := (c / 1024 ≠ c / 256 % 4 ∧ c / 1024 ≠ c / 64 % 4 ∧ c / 256 % 4 ≠ c / 64 % 4) ∧ (c / 16 % 4 ≠ c / 4 % 4 ∧ c / 16 % 4 ≠ c % 4 ∧ c / 4 % 4 ≠ c % 4) ∧ (c / 1024 < nR a ∧ c / 256 % 4 < nR a ∧ c / 64 % 4 < nR a) ∧ c / 16 % 4 < nC a ∧ c / 4 % 4 < nC a ∧ c % 4 < nC a
theorem vT_num {c : Nat} (hc : c < 4096) : nI c / 1024 = nI (c / 1024) ∧ nI c / 256 - nI c / 256 / 4 * 4 = nI (c / 256 % 4) ∧ nI c / 64 - nI c / 64 / 4 * 4 = nI (c / 64 % 4) ∧ nI c / 16 - nI c / 16 / 4 * 4 = nI (c / 16 % 4) ∧ nI c / 4 - nI c / 4 / 4 * 4 = nI (c / 4 % 4) ∧ nI c - nI c / 4 * 4 = nI (c % 4) := by
  have e0 : nI c / 1024 = nI (c / 1024) := pk_div (d := 1024) (by omega) (by omega) (by omega)
  have e1 : nI c / 256 = nI (c / 256) := pk_div (d := 256) (by omega) (by omega) (by omega)
  have e2 : nI c / 64 = nI (c / 64) := pk_div (d := 64) (by omega) (by omega) (by omega)
  have e3 : nI c / 16 = nI (c / 16) := pk_div (d := 16) (by omega) (by omega) (by omega)
  have e4 : nI c / 4 = nI (c / 4) := pk_div (d := 4) (by omega) (by omega) (by omega)
  have r : ∀ n, n < 4096 → nI n - nI n / 4 * 4 = nI (n % 4) := fun n hn => pk_rem (d := 4) (by omega) (by omega) (by omega)
  rw [e0, e1, e2, e3]
  refine ⟨rfl, r _ (by omega), r _ (by omega), r _ (by omega), ?_, r _ hc⟩
  rw [e4]
  exact r _ (by omega)
theorem mx2 {x y : Nat} (hx : x < 4096) (hy : y < 4096) : (if nI x < nI y then nI y else nI x) = nI (max x y) := by
  by_cases c : x < y
  · rw [if_pos ((nI_ltI (by omega) (by omega)).mpr c), Nat.max_eq_right (by omega)]
  · rw [if_neg (fun z => c ((nI_ltI (by omega) (by omega)).mp z)), Nat.max_eq_left (by omega)]
theorem or3_lt {i j k : Nat} (hi : i < 16) (hj : j < 16) (hk : k < 16) : (2 ^ i ||| 2 ^ j) ||| 2 ^ k < 65536 := Nat.or_lt_two_pow (n := 16) (or2_lt hi hj) (Nat.pow_lt_pow_right (by decide) hk)
section MT
variable {g : GX} {d : Nat} {ρ : Rs} {S : St} {a : AS} {adj : Nat → Nat → Prop} {Q0 : List Nat} {s : Nat} {f : Nat → Nat} {q : List Nat} {h o n : Nat}
theorem vT_m {c : Nat} (hW : WF a) (hv : vT a c) : inM a (mT c) ∧ okM (mT c) ∧ Sxc (mT c) ∧ Msk (nC a) (mT c) ((2 ^ (c / 1024 * nC a + c / 16 % 4) ||| 2 ^ (c / 256 % 4 * nC a + c / 4 % 4)) ||| 2 ^ (c / 64 % 4 * nC a + c % 4)) ((2 ^ (c / 1024 * nC a + c / 4 % 4) ||| 2 ^ (c / 256 % 4 * nC a + c % 4)) ||| 2 ^ (c / 64 % 4 * nC a + c / 16 % 4)) ∧ (2 ^ (c / 1024 * nC a + c / 16 % 4) ||| 2 ^ (c / 256 % 4 * nC a + c / 4 % 4)) ||| 2 ^ (c / 64 % 4 * nC a + c % 4) < 65536 ∧ (2 ^ (c / 1024 * nC a + c / 4 % 4) ||| 2 ^ (c / 256 % 4 * nC a + c % 4)) ||| 2 ^ (c / 64 % 4 * nC a + c / 16 % 4) < 65536 := by
  have hle := hW.le
  have e2 := mul44 hle.1 hle.2.1
  obtain ⟨⟨v1, v2, v3⟩, ⟨w1, w2, w3⟩, ⟨b1, b2, b3⟩, b4, b5, b6⟩ := hv
  have j1 := idx_lt b1 b4
  have j2 := idx_lt b2 b5
  have j3 := idx_lt b3 b6
  have j4 := idx_lt b1 b5
  have j5 := idx_lt b2 b6
  have j6 := idx_lt b3 b4
  exact ⟨⟨b1, b2, b3, b4, b5, b6⟩, Or.inr ⟨v1, v2, v3⟩, sxc_tn v1 v2 v3 w1 w2 w3, msk_tn b4 b5 b6 v1 v2 v3 w1 w2 w3, or3_lt (by omega) (by omega) (by omega), or3_lt (by omega) (by omega) (by omega)⟩
theorem sM_turn0 {Q : St → Prop} (hρ : Ok ρ) {u c r s t x w z : Int32} (hq : AW g ρ (QV Q) (d + 1) mX12_turnsFrom 2 [(0, .ref 80), (1, .int u), (2, .int (c + 1))] [] ρ S) : AW g ρ (QV Q) (d + 1) mX12_turnsFrom 150 [(0, .ref 80), (1, .int u), (2, .int c), (3, .int r), (4, .int s), (5, .int t), (6, .int x), (7, .int w), (8, .int z)] [.int 0] ρ S := by
  refine eX12_turnsFrom_150 hρ ?_
  rw [if_pos rfl]
  exact hq
theorem sM_turn1 {Q : St → Prop} (hρ : Ok ρ) {u c r s t x w z : Int32} (hq : AW g ρ (QV Q) (d + 1) mX12_turnsFrom 2 [(0, .ref 80), (1, .int u), (2, .int (c + 1))] [] ρ S) : AW g ρ (QV Q) (d + 1) mX12_turnsFrom 97 [(0, .ref 80), (1, .int u), (2, .int c), (3, .int r), (4, .int s), (5, .int t), (6, .int x), (7, .int w), (8, .int z)] [.int 0] ρ S := by
  refine eX12_turnsFrom_97 hρ ?_
  rw [if_pos rfl]
  exact sM_turn0 hρ hq
/-- is it a turn -/
theorem sM_isTurn {Q : St → Prop} (hρ : Ok ρ) (hW : WF a) (hI : IM a S) {u : Int32} {c : Nat} (hc : c < 4096) (h1 : vT a c → AW g ρ (QV Q) (d + 1) mX12_turnsFrom 150 [(0, .ref 80), (1, .int u), (2, .int (nI c)), (3, .int (nI (c / 1024))), (4, .int (nI (c / 256 % 4))), (5, .int (nI (c / 64 % 4))), (6, .int (nI (c / 16 % 4))), (7, .int (nI (c / 4 % 4))), (8, .int (nI (c % 4)))] [.int 1] ρ S) (h0 : ¬ vT a c → AW g ρ (QV Q) (d + 1) mX12_turnsFrom 2 [(0, .ref 80), (1, .int u), (2, .int (nI c + 1))] [] ρ S) : AW g ρ (QV Q) (d + 1) mX12_turnsFrom 2 [(0, .ref 80), (1, .int u), (2, .int (nI c))] [] ρ S := by
  have hle := hW.le
  obtain ⟨e0, e1, e2, e3, e4, e5⟩ := vT_num hc
  refine eX12_turnsFrom_2 hρ ?_
  rw [if_neg (show ¬ (4096 : Int32) ≤ nI c from nI_ge (b := 4096) hc (by omega)), e0, e1, e2, e3, e4, e5]
  have no : ∀ {z : Prop} [Decidable z], (vT a c → ¬ z) → z → AW g ρ (QV Q) (d + 1) mX12_turnsFrom 97 [(0, .ref 80), (1, .int u), (2, .int (nI c)), (3, .int (nI (c / 1024))), (4, .int (nI (c / 256 % 4))), (5, .int (nI (c / 64 % 4))), (6, .int (nI (c / 16 % 4))), (7, .int (nI (c / 4 % 4))), (8, .int (nI (c % 4)))] [.int 0] ρ S := fun k z => sM_turn1 hρ (h0 (fun v => k v z))
  by_cases c1 : c / 1024 = c / 256 % 4
  · rw [if_pos ((nI_eq (by omega) (by omega)).mpr c1)]; exact no (fun v z => v.1.1 z) c1
  · rw [if_neg (fun z => c1 ((nI_eq (by omega) (by omega)).mp z))]
    by_cases c2 : c / 1024 = c / 64 % 4
    · rw [if_pos ((nI_eq (by omega) (by omega)).mpr c2)]; exact no (fun v z => v.1.2.1 z) c2
    · rw [if_neg (fun z => c2 ((nI_eq (by omega) (by omega)).mp z))]
      by_cases c3 : c / 256 % 4 = c / 64 % 4
      · rw [if_pos ((nI_eq (by omega) (by omega)).mpr c3)]; exact no (fun v z => v.1.2.2 z) c3
      · rw [if_neg (fun z => c3 ((nI_eq (by omega) (by omega)).mp z))]
        by_cases c4 : c / 16 % 4 = c / 4 % 4
        · rw [if_pos ((nI_eq (by omega) (by omega)).mpr c4)]; exact no (fun v z => v.2.1.1 z) c4
        · rw [if_neg (fun z => c4 ((nI_eq (by omega) (by omega)).mp z))]
          by_cases c5 : c / 16 % 4 = c % 4
          · rw [if_pos ((nI_eq (by omega) (by omega)).mpr c5)]; exact no (fun v z => v.2.1.2.1 z) c5
          · rw [if_neg (fun z => c5 ((nI_eq (by omega) (by omega)).mp z))]
            by_cases c6 : c / 4 % 4 = c % 4
            · rw [if_pos ((nI_eq (by omega) (by omega)).mpr c6)]; exact no (fun v z => v.2.1.2.2 z) c6
            · rw [if_neg (fun z => c6 ((nI_eq (by omega) (by omega)).mp z))]
              refine eX12_turnsFrom_97 hρ ?_
              rw [if_neg (by decide), mx2 (by omega) (by omega), mx2 (by omega) (by omega), mx2 (by omega) (by omega), mx2 (by omega) (by omega), hI.2.2.2.2.1, hI.2.2.2.2.2.1]
              by_cases c7 : nR a ≤ max (c / 1024) (max (c / 256 % 4) (c / 64 % 4))
              · rw [if_pos ((nI_leI (by omega) (by omega)).mpr c7)]
                exact sM_turn0 hρ (h0 (fun v => by have := v.2.2.1; omega))
              · rw [if_neg (fun z => c7 ((nI_leI (by omega) (by omega)).mp z))]
                by_cases c8 : nC a ≤ max (c / 16 % 4) (max (c / 4 % 4) (c % 4))
                · rw [if_pos ((nI_leI (by omega) (by omega)).mpr c8)]
                  exact sM_turn0 hρ (h0 (fun v => by have := v.2.2.2; omega))
                · rw [if_neg (fun z => c8 ((nI_leI (by omega) (by omega)).mp z))]
                  exact h1 ⟨⟨c1, c2, c3⟩, ⟨c4, c5, c6⟩, ⟨by omega, by omega, by omega⟩, by omega, by omega, by omega⟩
theorem sM_turnsFrom {Q : St → Prop} (hρ : Ok ρ) (hF : ∀ k ∈ ([80, 90, 91, 92] : List Nat), gF g k) (hW : WF a) (hR : nR a ≠ 0) (hG : MG a S) (hn : (KK a).length ≤ 1000) (hP : PB (KK a).length adj Q0 s f q h) (hS : SB 91 92 80 36 o 0 1 (KK a).length Q0 f q S) (ho : o ≤ Q0.length) (hh : h < q.length) (hadj : ∀ i v, adjT a i v → adj i v) (hq : ∀ S' f' q', MG a S' → PB (KK a).length adj Q0 s f' q' h → SB 91 92 80 36 o 0 1 (KK a).length Q0 f' q' S' → h < q'.length → q'.getD h 0 = q.getD h 0 → (∀ y, y ∈ q → y ∈ q') → (∀ r s t c e k, (r ≠ s ∧ r ≠ t ∧ s ≠ t) ∧ (c ≠ e ∧ c ≠ k ∧ e ≠ k) → okC a (q.getD h 0) (r, s, t, c, e, k) → nxI a (q.getD h 0) (r, s, t, c, e, k) ∈ Q0 ∨ nxI a (q.getD h 0) (r, s, t, c, e, k) ∈ q') → Q S') : CALLv g (d + 4) mX12_turnsFrom [.ref 80, .int (nI (q.getD h 0))] ρ ρ S Q := by
  have hu : q.getD h 0 < (KK a).length := hP.2.1 _ (getD_mem hh)
  generalize eu : q.getD h 0 = u at hu hq ⊢
  have hF3 : ∀ k ∈ ([91, 92, 80] : List Nat), gF g k := fun k hk => hF k (by simp at hk; rcases hk with z | z | z <;> simp [z])
  have hF9 : gF g 90 := hF 90 (by simp)
  refine eX12_turnsFrom hρ ?_
  have key : ∀ k c S1 f1 q1, k + c = 4096 → MG a S1 → PB (KK a).length adj Q0 s f1 q1 h → SB 91 92 80 36 o 0 1 (KK a).length Q0 f1 q1 S1 → h < q1.length → q1.getD h 0 = u → (∀ y, y ∈ q → y ∈ q1) → (∀ c', c' < c → vT a c' → okC a u (mT c') → nxI a u (mT c') ∈ Q0 ∨ nxI a u (mT c') ∈ q1) → AW g ρ (QV Q) (d + 3 + 1) mX12_turnsFrom 2 [(0, .ref 80), (1, .int (nI u)), (2, .int (nI c))] [] ρ S1 := by
    intro k
    induction k with
    | zero =>
      intro c S1 f1 q1 hk g1 p1 s1 h1 e1 m1 d1
      refine eX12_turnsFrom_2 hρ ?_
      rw [if_pos (show (4096 : Int32) ≤ nI c from nI_le (a := 4096) (by omega) (by omega))]
      refine hq S1 f1 q1 g1 p1 s1 h1 e1 m1 (fun r s' t x w z hd ho' => ?_)
      have hle := hW.le
      obtain ⟨k1, k2, k3, k4, k5, k6⟩ := ho'.1.1
      have k1 : r < nR a := k1
      have k2 : s' < nR a := k2
      have k3 : t < nR a := k3
      have k4 : x < nC a := k4
      have k5 : w < nC a := k5
      have k6 : z < nC a := k6
      have a1 : (1024 * r + 256 * s' + 64 * t + 16 * x + 4 * w + z) / 1024 = r := by omega
      have a2 : (1024 * r + 256 * s' + 64 * t + 16 * x + 4 * w + z) / 256 % 4 = s' := by omega
      have a3 : (1024 * r + 256 * s' + 64 * t + 16 * x + 4 * w + z) / 64 % 4 = t := by omega
      have a4 : (1024 * r + 256 * s' + 64 * t + 16 * x + 4 * w + z) / 16 % 4 = x := by omega
      have a5 : (1024 * r + 256 * s' + 64 * t + 16 * x + 4 * w + z) / 4 % 4 = w := by omega
      have a6 : (1024 * r + 256 * s' + 64 * t + 16 * x + 4 * w + z) % 4 = z := by omega
      have em : mT (1024 * r + 256 * s' + 64 * t + 16 * x + 4 * w + z) = (r, s', t, x, w, z) := by
        unfold mT
        rw [a1, a2, a3, a4, a5, a6]
      have ev : vT a (1024 * r + 256 * s' + 64 * t + 16 * x + 4 * w + z) := by
        unfold vT
        rw [a1, a2, a3, a4, a5, a6]
        exact ⟨hd.1, hd.2, ⟨k1, k2, k3⟩, k4, k5, k6⟩
      have := d1 (1024 * r + 256 * s' + 64 * t + 16 * x + 4 * w + z) (by omega) ev
      rw [em] at this
      exact this ho'
    | succ k ih =>
      intro c S1 f1 q1 hk g1 p1 s1 h1 e1 m1 d1
      have go : ∀ S2 f2 q2, MG a S2 → PB (KK a).length adj Q0 s f2 q2 h → SB 91 92 80 36 o 0 1 (KK a).length Q0 f2 q2 S2 → h < q2.length → q2.getD h 0 = u → (∀ y, y ∈ q1 → y ∈ q2) → (vT a c → okC a u (mT c) → nxI a u (mT c) ∈ Q0 ∨ nxI a u (mT c) ∈ q2) → AW g ρ (QV Q) (d + 3 + 1) mX12_turnsFrom 2 [(0, .ref 80), (1, .int (nI u)), (2, .int (nI c + 1))] [] ρ S2 := by
        intro S2 f2 q2 g2 p2 s2 h2 e2 m2 d2
        rw [nI_1]
        refine ih (c + 1) S2 f2 q2 (by omega) g2 p2 s2 h2 e2 (fun y hy => m2 y (m1 y hy)) (fun c' hc' hv ho' => ?_)
        by_cases cc : c' = c
        · rw [cc] at hv ho' ⊢; exact d2 hv ho'
        · rcases d1 c' (by omega) hv ho' with z | z
          · exact Or.inl z
          · exact Or.inr (m2 _ z)
      refine sM_isTurn hρ hW g1.1 (by omega) (fun hv => ?_) (fun hv => go S1 f1 q1 g1 p1 s1 h1 e1 (fun y hy => hy) (fun z => absurd z hv))
      obtain ⟨w1, w2, w3, w4, w5, w6⟩ := vT_m hW hv
      have hle := hW.le
      have e16 := mul44 hle.1 hle.2.1
      obtain ⟨-, -, ⟨b1, b2, b3⟩, b4, b5, b6⟩ := id hv
      have j3 := idx_lt b3 b6
      have j6 := idx_lt b3 b4
      refine eX12_turnsFrom_150 hρ ?_
      rw [if_neg (by decide)]
      rw [show d + 3 = d + 2 + 1 by omega]
      refine sM_two hρ hW g1.1 b1 b4 b2 b5 (sM_place hρ g1.1 (sM_two hρ hW g1.1 b1 b5 b2 b6 (sM_place hρ g1.1 ?_)))
      rw [shl1 (by omega), shl1 (by omega), fa_or, fa_or]
      refine sM_comesOf hρ hF9 hW hR g1.1 g1.2.1 hn g1.2.2 hu w1 w2 w3 w5 w6 w4 (fun hok S2 f2 => ?_) (fun hno => ?_)
      · have g2 : MG a S2 := g1.fr (F := fun k => k = 90) (by omega) f2
        have s2 := s1.fr (S' := S2) (by rw [(f2 80 (by decide)).1]) (f2 92 (by decide)).1 (f2 91 (by decide)).1
        have hnx := nxI_ok hW hR hu (m4_of hW w1) w2 hok
        have ha : adj (q1.getD h 0) (nxI a u (mT c)) := by
          rw [e1]
          exact hadj _ _ (adjT_ch hW hR hu hv.1.1 hv.1.2.1 hv.1.2.2 hv.2.1.1 hv.2.1.2.1 hv.2.1.2.2 hok)
        have hmu : u ∈ q1 := by rw [← e1]; exact getD_mem h1
        have hx : S2.1 91 (nI u).toNatClampNeg + 1 = nI (f1 (q1.getD h 0) + 1) := by
          rw [nI_clamp (by omega), (s2.2.2 u hu).1 hmu, nI_1, e1, Nat.zero_add, Nat.one_mul]
        refine ⟨vp_in_nI (by omega) (by omega), ?_⟩
        refine sM_reach hρ hF3 g2 hn p1 s2 ho h1 hnx.1 ha hx (fun S3 f3 q3 g3 p3 s3 h3 e3 m3 d3 => ?_)
        exact go S3 f3 q3 g3 p3 s3 h3 (e3.trans e1) m3 (fun _ _ => d3)
      · refine ⟨vp_in_nI (by omega) (by omega), sM_reachN (x := -1) hρ hF3 g1 (by decide) ?_⟩
        exact go S1 f1 q1 g1 p1 s1 h1 e1 (fun y hy => hy) (fun _ z => absurd z hno)
  exact key 4096 0 S f q (by omega) hG hP hS hh eu (fun y hy => hy) (fun c' hc' => absurd hc' (by omega))
end MT
