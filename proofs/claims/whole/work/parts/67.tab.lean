-- THE STATE BEHIND table
def tabA (a : AS) : AS := match parse (tB a) (tL a) with
  | .inl e => ((0, tB a), (nI e.1, nI e.2), a.2.2)
  | .inr r => ((0, tB a), ((0 : Int32), (-1 : Int32)), (r.1.1, r.1.2.1, r.1.2.2, r.2.1), r.2.2, 0, pst a)
theorem tabA_l {a : AS} {e : PF} (h : parse (tB a) (tL a) = .inl e) : tabA a = ((0, tB a), (nI e.1, nI e.2), a.2.2) := by
  unfold tabA
  rw [h]
theorem tabA_r {a : AS} {r : (Nat × Nat × Nat) × (Nat → Nat → Bool) × (Nat → Nat → Nat)} (h : parse (tB a) (tL a) = .inr r) : tabA a = ((0, tB a), ((0 : Int32), (-1 : Int32)), (r.1.1, r.1.2.1, r.1.2.2, r.2.1), r.2.2, 0, pst a) := by
  unfold tabA
  rw [h]
/-- what a good text tells -/
def GoodP (r : (Nat × Nat × Nat) × (Nat → Nat → Bool) × (Nat → Nat → Nat)) : Prop :=
  r = ((0, 0, 0), h0, t0) ∨ ((2 ≤ r.1.1 ∧ r.1.1 ≤ 4) ∧ (2 ≤ r.1.2.1 ∧ r.1.2.1 ≤ 4) ∧ r.1.2.2 = 1 + r.1.1 + hN r.2.1 ∧ HolI r.1.1 r.1.2.1 r.2.2 r.2.1 ∧ RowsI r.1.2.1 r.1.1 r.2.2 (tsum r.2.2))
theorem parse_ok {B : Nat → Nat} {L : Nat} {r : (Nat × Nat × Nat) × (Nat → Nat → Bool) × (Nat → Nat → Nat)} (h : parse B L = .inr r) : GoodP r := by
  unfold parse at h
  split at h
  · injection h with h
    exact Or.inl h.symm
  · obtain ⟨s, h1, h⟩ := bd_ok h
    obtain ⟨q, h2, h⟩ := bd_ok h
    obtain ⟨u, h3, h⟩ := bd_ok h
    have h : Sum.inr ((s.1, s.2.1, u.2), u.1, q.1) = Sum.inr r := h
    injection h with h
    subst h
    have hs := pSizes_ok (Nat.zero_le _) h1
    have hq := pRows_ok hs.2.2.2 s.1 0 t0 0 s.2.2 q ⟨by decide, by decide, fun a b => by show 0 ≤ 9; omega, fun a b _ => rfl⟩ (by omega) hs.1 h2
    have hu := pHoles_ok hs.2.1 hs.2.2 17 h0 (1 + s.1) q.2.2 u hq.1 (fun a b z => absurd (show false = true from z) (by decide)) h3
    refine Or.inr ⟨hs.2.1, hs.2.2, ?_, hu.1, ?_⟩
    · have := hN_0
      have := hu.2
      show u.2 = 1 + s.1 + hN u.1
      omega
    · have e := hq.2
      rw [Nat.zero_add] at e
      rw [e.1] at e
      exact e
theorem cross {t : Nat → Nat → Nat} {y x : Nat} (hy : y < 4) (hx : x < 4) : rsum t y + csum t x ≤ tsum t + t y x := by
  unfold tsum rsum csum s4
  rcases (show y = 0 ∨ y = 1 ∨ y = 2 ∨ y = 3 by omega) with rfl | rfl | rfl | rfl <;> rcases (show x = 0 ∨ x = 1 ∨ x = 2 ∨ x = 3 by omega) with rfl | rfl | rfl | rfl <;> dsimp only <;> omega
theorem GoodP.told {r : (Nat × Nat × Nat) × (Nat → Nat → Bool) × (Nat → Nat → Nat)} (h : GoodP r) (q : Nat × (Nat → Nat)) (f : Int32 × Int32) (u : Nat → Nat → Nat → Nat) : NoTab (q, f, (r.1.1, r.1.2.1, r.1.2.2, r.2.1), r.2.2, 0, u) ∨ Told (q, f, (r.1.1, r.1.2.1, r.1.2.2, r.2.1), r.2.2, 0, u) := by
  rcases h with h | ⟨hR, hC, hl, hH, hI⟩
  · subst h
    exact Or.inl ⟨rfl, rfl, rfl, rfl, fun _ _ => rfl, fun _ _ => rfl⟩
  · have h16 := hN_le r.2.1
    refine Or.inr ⟨hR.1, hR.2, hC.1, hC.2, ?_, ?_, ?_, hI.2.1, ?_, ⟨?_, ?_⟩, ?_⟩
    · show 0 < r.1.2.2
      omega
    · show r.1.2.2 < 1000
      omega
    · intro y x hyx
      have := hH y x hyx
      exact ⟨this.1, this.2.1⟩
    · intro y x
      show rsum r.2.2 y ≤ 14 ∨ csum r.2.2 x ≤ 14
      by_cases c : y < 4 ∧ x < 4
      · have := cross (t := r.2.2) c.1 c.2
        have := hI.2.1
        have := hI.2.2.1 y x
        omega
      · by_cases cy : y < 4
        · have z : ∀ b, r.2.2 b x = 0 := fun b => hI.2.2.2 b x (by omega)
          right
          unfold csum s4
          dsimp only
          rw [z 0, z 1, z 2, z 3]
          omega
        · have z : ∀ b, r.2.2 y b = 0 := fun b => hI.2.2.2 y b (by omega)
          left
          unfold rsum s4
          rw [z 0, z 1, z 2, z 3]
          omega
    · intro y x hyx
      exact hI.2.2.2 y x hyx
    · intro y x hyx
      exact (hH y x hyx).2.2
    · intro i hi
      exact absurd hi (Nat.not_lt_zero i)
theorem tabA_WF {a : AS} (h : WF a) : WF (tabA a) := by
  cases e : parse (tB a) (tL a) with
  | inl f =>
    rw [tabA_l e]
    exact ⟨Nat.zero_le _, fun i hi => absurd hi (Nat.not_lt_zero i), h.2.2.1, h.2.2.2⟩
  | inr r =>
    rw [tabA_r e]
    exact ⟨Nat.zero_le _, fun i hi => absurd hi (Nat.not_lt_zero i), Nat.zero_le _, (parse_ok e).told _ _ _⟩
theorem WF.byt {a : AS} {S : St} (hW : WF a) (hI : IM a S) : Byt 80 4 84 (tB a) (tL a) S := ⟨hI.1, hI.2.1, hW.2.1, hW.1⟩
theorem WF.bytC {a : AS} {S : St} (hW : WF a) (hI : IB a S) : Byt 17 1 18 (tB a) (tL a) S := ⟨hI.1, hI.2.1, hW.2.1, hW.1⟩
section T3
variable {g : GX} {d : Nat} {ρ : Rs} {S : St} {a : AS}
/-- the model's table -/
theorem sM_tableA {Q : Int32 → St → Prop} (hρ : Ok ρ) (hF : ∀ k ∈ ([80, 82, 81] : List Nat), gF g k) (hW : WF a) (hI : IM a S) (hQ : ∀ S', IM (tabA a) S' → Fr F82 S S' → Q (match parse (tB a) (tL a) with | .inl _ => -4 | .inr r => nI r.1.2.2) S') : CALLi g (d + 7) mX12_table [.ref 80] ρ ρ S Q := by
  refine sM_table hρ hF (hW.byt hI) (fun e S' he h1 h2 h3 => ?_) (fun r S' he h1 h2 h3 => ?_)
  · have q := hQ S' ?_ h3
    · rw [he] at q
      exact q
    · rw [tabA_l he]
      obtain ⟨m1, m2, m3, m4, m5, m6, m7, m8, m9, m10, m11⟩ := hI
      refine ⟨h1.1, fun i hi => absurd hi (Nat.not_lt_zero i), h1.2.1, h1.2.2, ?_, ?_, ?_, ?_, ?_, fun k hk => ?_, fun i hi k hk => ?_⟩
      · rw [h2 0 (by omega)]; exact m5
      · rw [h2 1 (by omega)]; exact m6
      · rw [h2 2 (by omega)]; exact m7
      · rw [h2 3 (by omega)]; exact m8
      · rw [h2 4 (by omega)]; exact m9
      · rw [h2 (5 + k) (by omega)]; exact m10 k hk
      · rw [(h3 83 (by unfold F82; omega)).1]; exact m11 i hi k hk
  · have q := hQ S' ?_ h3
    · rw [he] at q
      exact q
    · rw [tabA_r he]
      obtain ⟨T, r11, r0, r1, r2, r3, r4, r5⟩ := h2
      exact ⟨h1.1, fun i hi => absurd hi (Nat.not_lt_zero i), h1.2.1, h1.2.2, r0, r1, r2, r3, r4, r5, fun i hi => absurd hi (Nat.not_lt_zero i)⟩
/-- the class's table, as far as the sheet -/
theorem sC_tableA {Q : Int32 → St → Prop} (hρ : Ok ρ) (hF : ∀ k ∈ ([17, 19, 20, 21, 22, 23] : List Nat), gF g k) (hW : WF a) (hI : IB a S)
    (hE : ∀ e S', parse (tB a) (tL a) = .inl e → IB (tabA a) S' → Fr (fun k => k = 17 ∨ F20 k) S S' → Q (-4) S')
    (hO : ∀ r S', parse (tB a) (tL a) = .inr r → IB (tabA a) S' → Fr (fun k => k = 17 ∨ F20 k ∨ F23 k) S S' → if r.1.1 = 0 then AW g ρ (QI Q) (d + 12) mX11_table 70 [(0, .ref 16)] [] ρ S' else CALLv g (d + 11) mX5_make [.ref 26, .ref 21] ρ ρ S' (fun S4 => CALLv g (d + 11) mX1_make [.ref 31, .ref 21] ρ ρ S4 (fun S5 => AW g ρ (QI Q) (d + 12) mX11_table 70 [(0, .ref 16)] [] ρ S5))) : CALLi g (d + 12) mX11_table [.ref 16] ρ ρ S Q := by
  obtain ⟨b1, b2, b3, b4, b5, b6, b7, b8, b9, b10, b11, b12, b13, b14⟩ := hI
  refine eX11_table hρ (fun k hk => hF k (by simp at hk; simp [hk])) ?_
  refine sC_read hρ (fun k hk => hF k (by simp at hk; rcases hk with q | q <;> simp [q])) (hW.bytC ⟨b1, b2, b3, b4, b5, b6, b7, b8, b9, b10, b11, b12, b13, b14⟩) (fun e S1 he hf => ?_) (fun r S1 he hr hf => ?_)
  · rw [if_pos rfl]
    obtain ⟨f1, f2, f3⟩ := hf
    have fr : Fr (fun k => k = 17 ∨ F20 k) S (setI S1 17 1 0) := (f3.mono (fun k hk => Or.inr hk)).tr (Fr.setI _ _ _ (Or.inl rfl))
    have s21 := f3 21 (by unfold F20; omega)
    have s22 := f3 22 (by unfold F20; omega)
    have s23 := f3 23 (by unfold F20; omega)
    have s24 := f3 24 (by unfold F20; omega)
    refine hE e _ he ?_ fr
    rw [tabA_l he]
    unfold IB
    rw [setI_L, setI_ne S1 1 0 (show (19 : Nat) ≠ 17 by decide), setI_ne S1 1 0 (show (21 : Nat) ≠ 17 by decide), setI_ne S1 1 0 (show (22 : Nat) ≠ 17 by decide), setI_ne S1 1 0 (show (23 : Nat) ≠ 17 by decide), s21.1, s21.2, s22.1, s23.1, s24.2]
    exact ⟨by rw [setI_at, if_pos ⟨rfl, rfl⟩]; rfl, fun i hi => absurd hi (Nat.not_lt_zero i), f1, f2, b5, b6, b7, b8, b9, b10, b11, b12, b13, b14⟩
  · rw [if_neg (by decide)]
    obtain ⟨T, r0, r1, r2, r3, r4, r5, r7, r20⟩ := hr
    have hg := parse_ok he
    have ht9 : ∀ x y, r.2.2 x y ≤ 9 := by
      rcases hg with z | z
      · rw [z]; intro x y; show 0 ≤ 9; omega
      · exact z.2.2.2.2.2.2.1
    have hR4 : r.1.1 ≤ 4 := by
      rcases hg with z | z
      · rw [z]; show 0 ≤ 4; omega
      · exact z.1.2
    have rd : RdC r.1.1 r.1.2.1 r.1.2.2 r.2.1 T r.2.2 (setI S1 17 1 0) := by
      unfold RdC
      rw [setI_ne S1 1 0 (show (19 : Nat) ≠ 17 by decide), setI_ne S1 1 0 (show (20 : Nat) ≠ 17 by decide)]
      exact ⟨r0, r1, r2, r3, r4, r5, r7, r20⟩
    refine sC_take hρ (fun k hk => hF k (by simp at hk; rcases hk with q | q | q <;> simp [q])) rd ht9 (fun S2 sh fr2 => ?_)
    obtain ⟨a0, a1, a2, a3, a4, a5, a6, a7, a8⟩ := sh
    have ib : IB (tabA a) S2 := by
      rw [tabA_r he]
      refine ⟨?_, fun i hi => absurd hi (Nat.not_lt_zero i), ?_, ?_, a0, a1, a2, a3, a4, a5, a6, a7, a8, fun i hi => absurd hi (Nat.not_lt_zero i)⟩
      · rw [(fr2 17 (by unfold F23; omega)).1, setI_at, if_pos ⟨rfl, rfl⟩]; rfl
      · rw [(fr2 19 (by unfold F23; omega)).1, setI_ne S1 1 0 (show (19 : Nat) ≠ 17 by decide)]; exact r0
      · rw [(fr2 19 (by unfold F23; omega)).1, setI_ne S1 1 0 (show (19 : Nat) ≠ 17 by decide)]; exact r1
    have fr : Fr (fun k => k = 17 ∨ F20 k ∨ F23 k) S S2 := by
      refine Fr.tr (Fr.tr (hf.mono (fun k hk => Or.inr (Or.inl hk))) ?_) (fr2.mono (fun k hk => Or.inr (Or.inr hk)))
      exact Fr.setI _ _ _ (Or.inl rfl)
    have q := hO r S2 he ib fr
    refine eX9_isTold hρ ?_
    rw [a0]
    have iz : nI r.1.1 ≤ 0 ↔ r.1.1 ≤ 0 := nI_leI (b := 0) (by omega) (by omega)
    by_cases c : r.1.1 = 0
    · rw [if_pos (iz.mpr (by omega)), if_pos rfl]
      rw [if_pos c] at q
      exact q
    · rw [if_neg (fun z => c (by have := iz.mp z; omega)), if_neg (by decide)]
      rw [if_neg c] at q
      exact q
end T3
