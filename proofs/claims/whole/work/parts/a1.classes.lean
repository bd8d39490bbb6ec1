-- CLASSES, by the model
theorem BI.cl {adj : Nat → Nat → Prop} {V0 : Nat → Prop} {s : Nat} {f : Nat → Nat} {q : List Nat} (b : BI adj V0 s f q q.length) (hc : ∀ u v, V0 u → adj u v → V0 v) {u v : Nat} (hu : V0 u ∨ u ∈ q) (ha : adj u v) : V0 v ∨ v ∈ q := by
  rcases hu with z | z
  · exact Or.inl (hc u v z ha)
  · rcases b.done hc (f u + 1) v ⟨u, b.2.2.2.2.2.2.1 u z, ha⟩ with y | y
    · exact Or.inl y
    · exact Or.inr y.1
/-- one that no earlier one leads to -/
def hdN (adj : Nat → Nat → Prop) (k : Nat) : Prop := ¬ ∃ j m, j < k ∧ pth adj m j k
noncomputable def cntC (adj : Nat → Nat → Prop) : Nat → Nat
  | 0 => 0
  | k + 1 => cntC adj k + @ite Nat (hdN adj k) (Classical.propDecidable _) 1 0
theorem cntC_y {adj : Nat → Nat → Prop} {k : Nat} (h : hdN adj k) : cntC adj (k + 1) = cntC adj k + 1 := by
  show cntC adj k + @ite Nat (hdN adj k) (Classical.propDecidable _) 1 0 = _
  rw [if_pos h]
theorem cntC_n {adj : Nat → Nat → Prop} {k : Nat} (h : ¬ hdN adj k) : cntC adj (k + 1) = cntC adj k := by
  show cntC adj k + @ite Nat (hdN adj k) (Classical.propDecidable _) 1 0 = _
  rw [if_neg h]
  rfl
theorem cntC_le {adj : Nat → Nat → Prop} : ∀ k, cntC adj k ≤ k
  | 0 => Nat.le_refl _
  | k + 1 => by
    have := cntC_le (adj := adj) k
    by_cases c : hdN adj k
    · rw [cntC_y c]; omega
    · rw [cntC_n c]; omega
/-- come to from one of the first k -/
def VK (adj : Nat → Nat → Prop) (k : Nat) (Q0 : List Nat) : Prop := ∀ v, v ∈ Q0 ↔ ∃ j m, j < k ∧ pth adj m j v
theorem VK.hd {adj : Nat → Nat → Prop} {k : Nat} {Q0 : List Nat} (h : VK adj k Q0) : hdN adj k ↔ k ∉ Q0 := by
  unfold hdN
  rw [h k]
theorem VK.old {adj : Nat → Nat → Prop} {k : Nat} {Q0 : List Nat} (h : VK adj k Q0) (hc : ∀ u v, u ∈ Q0 → adj u v → v ∈ Q0) (hk : k ∈ Q0) : VK adj (k + 1) Q0 := by
  have cl : ∀ m u v, u ∈ Q0 → pth adj m u v → v ∈ Q0 := by
    intro m
    induction m with
    | zero =>
      intro u v hu hp
      have hp : u = v := hp
      rw [← hp]; exact hu
    | succ m ih =>
      intro u v hu hp
      obtain ⟨w, h1, h2⟩ := hp
      exact hc w v (ih u w hu h1) h2
  intro v
  rw [h v]
  constructor
  · intro ⟨j, m, h1, h2⟩
    exact ⟨j, m, by omega, h2⟩
  · intro ⟨j, m, h1, h2⟩
    by_cases c : j = k
    · rw [c] at h2
      exact (h v).mp (cl m k v hk h2)
    · exact ⟨j, m, by omega, h2⟩
theorem VK.new {adj : Nat → Nat → Prop} {k : Nat} {Q0 q : List Nat} {f : Nat → Nat} (h : VK adj k Q0) (hc : ∀ u v, u ∈ Q0 → adj u v → v ∈ Q0) (b : BI adj (fun v => v ∈ Q0) k f q q.length) : VK adj (k + 1) (Q0 ++ q) ∧ ∀ u v, u ∈ Q0 ++ q → adj u v → v ∈ Q0 ++ q := by
  refine ⟨fun v => ?_, fun u v hu ha => ?_⟩
  · rw [List.mem_append]
    constructor
    · intro z
      rcases z with z | z
      · obtain ⟨j, m, h1, h2⟩ := (h v).mp z
        exact ⟨j, m, by omega, h2⟩
      · exact ⟨k, f v, by omega, b.2.2.2.2.2.2.1 v z⟩
    · intro ⟨j, m, h1, h2⟩
      by_cases c : j = k
      · rw [c] at h2
        rcases b.done hc m v h2 with z | z
        · exact Or.inl z
        · exact Or.inr z.1
      · exact Or.inl ((h v).mpr ⟨j, m, by omega, h2⟩)
  · rw [List.mem_append] at hu ⊢
    exact b.cl hc hu ha
section MX
variable {g : GX} {d : Nat} {ρ : Rs} {S : St} {a : AS}
noncomputable def clV (a : AS) (w : Bool) : Int32 := if nR a = 0 then -2 else if 1000 < (KK a).length then -3 else nI (cntC (adjW a w) (KK a).length)
theorem sM_classesOf {Q : Int32 → St → Prop} (w : Bool) (hρ : Ok ρ) (hF : ∀ k ∈ ([80, 85, 86, 87, 89, 90, 91, 92] : List Nat), gF g k) (hW : WF a) (hI : IM a S) (hq : ∀ S', IM a S' → Q (clV a w) S') : CALLi g (d + 22) mX12_classesOf [.ref 80, .int (wI w)] ρ ρ S Q := by
  have hF5 : ∀ k ∈ ([80, 85, 86, 87, 89] : List Nat), gF g k := fun k hk => hF k (by simp at hk; rcases hk with z | z | z | z | z <;> simp [z])
  have hF2 : ∀ k ∈ ([80, 91] : List Nat), gF g k := fun k hk => hF k (by simp at hk; rcases hk with z | z <;> simp [z])
  have hF4 : ∀ k ∈ ([80, 90, 91, 92] : List Nat), gF g k := fun k hk => hF k (by simp at hk; rcases hk with z | z | z | z <;> simp [z])
  refine eX12_classesOf hρ (sM_is hρ hW hI ?_)
  by_cases c : nR a = 0
  · rw [if_pos c, if_pos rfl]
    have := hq S hI
    unfold clV at this
    rw [if_pos c] at this
    exact this
  rw [if_neg c, if_neg (by decide)]
  refine sM_listsAll hρ hF5 hW c hI (fun hl S1 i1 e1 l1 => ?_) (fun hl S1 i1 => ?_)
  rotate_left
  · rw [if_pos rfl]
    have := hq S1 i1
    unfold clV at this
    rw [if_neg c, if_pos hl] at this
    exact this
  rw [if_neg (by decide)]
  have hq2 : ∀ S', IM a S' → Q (nI (cntC (adjW a w) (KK a).length)) S' := fun S' i' => by
    have := hq S' i'
    unfold clV at this
    rw [if_neg c, if_neg (by omega)] at this
    exact this
  refine sM_begins hρ hF2 ⟨i1, l1, e1⟩ (fun S2 g2 m2 q2 _ => ?_)
  have key : ∀ k i S1 Q0, k + i = (KK a).length → MG a S1 → Q0.Nodup → (∀ v, v ∈ Q0 → v < (KK a).length) → VK (adjW a w) i Q0 → (∀ u v, u ∈ Q0 → adjW a w u v → v ∈ Q0) → (∀ v, v < (KK a).length → (v ∈ Q0 → ∃ z, z < 2 ^ 31 ∧ S1.1 91 v = nI z) ∧ (v ∉ Q0 → S1.1 91 v = -1)) → S1.1 80 36 = nI Q0.length → AW g ρ (QI Q) (d + 21 + 1) mX12_classesOf 28 [(0, .ref 80), (1, .int (wI w)), (2, .int (nI (cntC (adjW a w) i))), (3, .int (nI i))] [] ρ S1 := by
    intro k
    induction k with
    | zero =>
      intro i S1 Q0 hk g1 n1 b1 v1 c1 m1 e36
      refine eX12_classesOf_28 hρ ?_
      rw [g1.2.2, if_pos (nI_le (by omega) (by omega)), show i = (KK a).length by omega]
      exact hq2 S1 g1.1
    | succ k ih =>
      intro i S1 Q0 hk g1 n1 b1 v1 c1 m1 e36
      refine eX12_classesOf_28 hρ ?_
      rw [g1.2.2, if_neg (nI_ge (by omega) (by omega))]
      refine sM_spreads (d := d + 16) w hρ hF4 hW c g1 hl (by omega) n1 b1 m1 e36 (fun hi => ?_) (fun hi S3 f q g3 p3 s3 => ?_)
      · rw [if_pos (by decide), Int32.add_zero, nI_1, ← cntC_n (show ¬ hdN (adjW a w) i from fun z => (v1.hd.mp z) hi)]
        exact ih (i + 1) S1 Q0 (by omega) g1 n1 b1 (v1.old c1 hi) c1 m1 e36
      · have hs : i ∈ q := p3.1.2.2.2.2.2.1.1
        have hl2 := p3.len
        have hq0 : 0 < q.length := List.length_pos_of_mem hs
        rw [if_neg (show ¬ nI q.length ≤ (0 : Int32) from nI_ge (a := 0) hq0 (by omega)), nI_1, nI_1, ← cntC_y (v1.hd.mpr hi)]
        obtain ⟨v3, c3⟩ := v1.new c1 p3.1
        refine ih (i + 1) S3 (Q0 ++ q) (by omega) g3 p3.nd (fun v hv => ?_) v3 c3 (fun v hv => ⟨fun z => ?_, fun z => ?_⟩) ?_
        · rcases List.mem_append.mp hv with z | z
          · exact b1 v z
          · exact p3.2.1 v z
        · rcases List.mem_append.mp z with y | y
          · exact (s3.2.2 v hv).2.1 y
          · exact ⟨0 + 1 * f v, by have := p3.fle y; omega, (s3.2.2 v hv).1 y⟩
        · rw [List.mem_append] at z
          exact (s3.2.2 v hv).2.2 (fun y => z (Or.inl y)) (fun y => z (Or.inr y))
        · rw [s3.1, List.length_append]
  exact key (KK a).length 0 S2 [] (by omega) g2 List.nodup_nil (fun v hv => absurd hv (by simp)) (fun v => ⟨fun z => absurd z (by simp), fun ⟨j, m, h1, _⟩ => absurd h1 (by omega)⟩) (fun u v z => absurd z (by simp)) (fun v hv => ⟨fun z => absurd z (by simp), fun _ => m2 v (by omega)⟩) q2
theorem sM_classes {Q : Int32 → St → Prop} (hρ : Ok ρ) (hF : ∀ k ∈ ([80, 85, 86, 87, 89, 90, 91, 92] : List Nat), gF g k) (hW : WF a) (hI : IM a S) (hq : ∀ S', IM a S' → Q (clV a false) S') : CALLi g (d + 23) mX12_classes [.ref 80] ρ ρ S Q := eX12_classes hρ (sM_classesOf false hρ hF hW hI hq)
theorem sM_joined {Q : Int32 → St → Prop} (hρ : Ok ρ) (hF : ∀ k ∈ ([80, 85, 86, 87, 89, 90, 91, 92] : List Nat), gF g k) (hW : WF a) (hI : IM a S) (hq : ∀ S', IM a S' → Q (clV a true) S') : CALLi g (d + 23) mX12_joined [.ref 80] ρ ρ S Q := eX12_joined hρ (sM_classesOf true hρ hF hW hI hq)
end MX
