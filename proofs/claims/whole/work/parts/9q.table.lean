-- THE CLASS'S TABLE, whole
def Fcl (k : Nat) : Prop := 17 ≤ k ∧ k ≤ 70
section TB
variable {g : GX} {d : Nat} {ρ : Rs} {S : St} {a : AS}
theorem sC_table {Q : Int32 → St → Prop} (hρ : Ok ρ) (hF : ∀ k, Fcl k → gF g k) (hW : WF a) (hI : IB a S)
    (hE : ∀ e S', parse (tB a) (tL a) = .inl e → IB (tabA a) S' → Fr (fun k => k = 17 ∨ F20 k) S S' → Q (-4) S')
    (hO : ∀ r S', parse (tB a) (tL a) = .inr r → IB (tabA a) S' → (nR (tabA a) ≠ 0 → ∃ V, IFb (tabA a) V S' ∧ MVd (tabA a) S') → (∀ w, w < 4 → S'.1 65 w = 0 ∧ S'.1 66 w = 0) → S'.1 70 2 = 0 → Fr Fcl S S' → Q (nI (nLn (tabA a))) S') : CALLi g (d + 12) mX11_table [.ref 16] ρ ρ S Q := by
  have hFm : ∀ L : List Nat, (∀ k, k ∈ L → Fcl k) → ∀ k ∈ L, gF g k := fun L hL k hk => hF k (hL k hk)
  have hWt := tabA_WF hW
  refine sC_tableA hρ (hFm _ (by intro k hk; unfold Fcl; simp at hk; omega)) hW hI hE (fun r S1 he ib f1 => ?_)
  have eR : nR (tabA a) = r.1.1 := by rw [tabA_r he]
  have f1' : Fr Fcl S S1 := f1.mono (fun k hk => by unfold Fcl; unfold F20 F23 at hk; omega)
  -- what comes behind
  have fin : ∀ S2, IB (tabA a) S2 → (nR (tabA a) ≠ 0 → ∃ V, IFb (tabA a) V S2 ∧ MVd (tabA a) S2) → Fr Fcl S S2 → AW g ρ (QI Q) (d + 12) mX11_table 70 [(0, .ref 16)] [] ρ S2 := by
    intro S2 i2 v2 f2
    refine eX11_table_70 hρ (sC_mforget hρ (hFm _ (by intro k hk; unfold Fcl; simp at hk; omega)) (fun S3 z1 z2 => ?_))
    refine eX6_forget hρ (hFm _ (by intro k hk; unfold Fcl; simp at hk; omega)) ?_
    have f70 : Fcl 70 := by unfold Fcl; omega
    have i3 : IB (tabA a) (setI S3 70 2 0) := (i2.fr (fun k hk z => by omega) z2).fr (F := fun k => k = 70) (fun k hk z => by omega) (Fr.setI (F := fun k => k = 70) _ _ _ rfl)
    have e21 : (setI S3 70 2 0).1 21 2 = nI (nLn (tabA a)) := i3.2.2.2.2.2.2.1
    rw [e21]
    have q1 : ∀ k, k ≠ 65 → k ≠ 66 → k ≠ 70 → (setI S3 70 2 0).1 k = S2.1 k ∧ (setI S3 70 2 0).2 k = S2.2 k := fun k c1 c2 c3 => ⟨by rw [setI_ne _ _ _ c3]; exact (z2 k (by omega)).1, by rw [setI_L]; exact (z2 k (by omega)).2⟩
    refine hO r _ he i3 (fun hne => ?_) (fun w hw => ?_) (by rw [setI_at, if_pos ⟨rfl, rfl⟩]) (f2.tr (Fr.tr (z2.mono (fun k hk => by unfold Fcl; omega)) (Fr.setI (F := Fcl) _ _ _ f70)))
    · obtain ⟨V, v1, v3⟩ := v2 hne
      refine ⟨V, v1.fr (fun k hk => (q1 k (by unfold FFb at hk; omega) (by unfold FFb at hk; omega) (by unfold FFb at hk; omega)).1) (fun k hk => (q1 k (by unfold FFb at hk; omega) (by unfold FFb at hk; omega) (by unfold FFb at hk; omega)).2), ?_⟩
      unfold MVd MVI mvAt at v3 ⊢
      rw [(q1 26 (by omega) (by omega) (by omega)).1, (q1 27 (by omega) (by omega) (by omega)).2, (q1 28 (by omega) (by omega) (by omega)).1, (q1 29 (by omega) (by omega) (by omega)).1, (q1 30 (by omega) (by omega) (by omega)).1]
      exact v3
    · rw [setI_ne _ _ _ (by decide), setI_ne _ _ _ (by decide)]
      exact z1 w hw
  by_cases c : r.1.1 = 0
  · rw [if_pos c]
    exact fin S1 ib (fun z => absurd (eR.trans c) z) f1'
  · rw [if_neg c]
    have hRt : nR (tabA a) ≠ 0 := by rw [eR]; exact c
    refine sC_moves hρ (fun k hk => hF k (by unfold FMv at hk; unfold Fcl; omega)) hWt hRt ib (fun S2 m1 m2 => ?_)
    have i2 : IB (tabA a) S2 := ib.fr (fun k hk z => by unfold FMv at z; omega) m2
    refine sC_fiber hρ (fun k hk => hF k (by unfold FFb at hk; unfold Fcl; omega)) hWt hRt i2 (fun S3 V v1 v2 => ?_)
    have i3 : IB (tabA a) S3 := i2.fr (fun k hk z => by unfold FFb at z; omega) v2
    refine fin S3 i3 (fun _ => ⟨V, v1, ?_⟩) ((f1'.tr (m2.mono (fun k hk => by unfold FMv at hk; unfold Fcl; omega))).tr (v2.mono (fun k hk => by unfold FFb at hk; unfold Fcl; omega)))
    unfold MVd MVI mvAt at m1 ⊢
    rw [(v2 26 (fun z => by unfold FFb at z; omega)).1, (v2 27 (fun z => by unfold FFb at z; omega)).2, (v2 28 (fun z => by unfold FFb at z; omega)).1, (v2 29 (fun z => by unfold FFb at z; omega)).1, (v2 30 (fun z => by unfold FFb at z; omega)).1]
    exact m1
end TB
