-- THE MODEL IS FED
theorem d20 : ∀ x, x < 20 → (nI x / 4 : Int32) = nI (x / 4) ∧ (24 - 8 * (nI x - nI x / 4 * 4) : Int32) = nI (24 - 8 * (x % 4)) := by decide +kernel
section F1
variable {g : GX} {d : Nat} {ρ : Rs} {S : St} {a : AS}
theorem sM_feed0 {Q : Int32 → St → Prop} (hρ : Ok ρ) (hFn : gF g (rn ρ)) (hW : WF a) (hI : IM a S) (hr : ¬ tL a + 20 ≤ 300) {w1 w2 w3 w4 w5 : Int32} (h : Q (-1) S) : CALLi g d mX12_feed [.ref 80, .int w1, .int w2, .int w3, .int w4, .int w5] ρ ρ S Q := by
  have hl := hW.le
  refine eX12_feed hρ (Nat.le_refl _) (Nat.le_refl _) hFn ?_
  rw [hI.1, if_neg (show ¬ nI (tL a) ≤ (280 : Int32) from nI_ge (a := 280) (by omega) (by omega))]
  exact ⟨rfl, h⟩
theorem sM_feed1 {Q : Int32 → St → Prop} (hρ : Ok ρ) (hF : ∀ k ∈ ([80, 84] : List Nat), gF g k) (hFn : gF g (rn ρ)) (hI : IM a S) (hr : tL a + 20 ≤ 300) {w1 w2 w3 w4 w5 : Int32} (h : ∀ S', IM (fedA a (wd5 w1 w2 w3 w4 w5)) S' → Fr (fun k => k = 80 ∨ k = 84 ∨ k = rn ρ) S S' → Q (nI (tL a + 20)) S') : CALLi g d mX12_feed [.ref 80, .int w1, .int w2, .int w3, .int w4, .int w5] ρ (newR ρ 5 5) S Q := by
  have hN : 95 ≤ rn ρ := hρ.1
  have hρ2 : Ok (newR ρ 5 5) := hρ.newR 5 5
  refine eX12_feed hρ (Nat.le_succ _) (Nat.le_add_right _ _) hFn ?_
  rw [hI.1, if_pos (show nI (tL a) ≤ (280 : Int32) from nI_le (b := 280) (by omega) (by omega))]
  refine ⟨Nat.le_refl _, Nat.le_refl _, ?_⟩
  have key : ∀ n x S1, x + n = 20 → Fr (fun k => k = 80 ∨ k = 84 ∨ k = rn ρ) S S1 → S1.1 80 = S.1 80 → (∀ i, i < 5 → S1.1 (rn ρ) i = wd5 w1 w2 w3 w4 w5 i) → (∀ i, i < tL a + x → S1.1 84 i = nI (fedB a (wd5 w1 w2 w3 w4 w5) i)) → AW g (newR ρ 5 5) (QI Q) d mX12_feed 42 [(0, .ref 80), (6, .ref (rn ρ)), (7, .int (nI x))] [] (newR ρ 5 5) S1 := by
    intro n
    induction n with
    | zero =>
      intro x S1 hx f1 e80 ew eb
      have hx : x = 20 := hx
      subst hx
      refine eX12_feed_42 hρ2 (Nat.le_refl _) (Nat.le_refl _) (by omega) (Nat.lt_succ_self _) (newR_new hρ 5 5) hF ?_
      have e20 : nI (tL a) + 20 = nI (tL a + 20) := nI_add _ 20
      rw [if_pos (show (20 : Int32) ≤ nI 20 from nI_le (a := 20) (by omega) (by omega)), e80, hI.1, e20]
      refine ⟨rfl, h _ ?_ (f1.tr (Fr.setI _ _ _ (Or.inl rfl)))⟩
      obtain ⟨i1, i2, i3, i4, i5, i6, i7, i8, i9, i10, i11⟩ := hI
      have q81 := (f1 81 (by omega)).1
      have q83 := (f1 83 (by omega)).1
      refine ⟨?_, fun i hi => ?_, ?_, ?_, ?_, ?_, ?_, ?_, ?_, fun k hk => ?_, fun i hi k hk => ?_⟩
      · rw [setI_at, if_pos ⟨rfl, rfl⟩]; rfl
      · rw [setI_ne _ _ _ (by decide)]; exact eb i hi
      · rw [setI_at, if_neg (fun z => absurd z.2 (by decide)), e80]; exact i3
      · rw [setI_at, if_neg (fun z => absurd z.2 (by decide)), e80]; exact i4
      · rw [setI_ne _ _ _ (by decide), q81]; exact i5
      · rw [setI_ne _ _ _ (by decide), q81]; exact i6
      · rw [setI_ne _ _ _ (by decide), q81]; exact i7
      · rw [setI_ne _ _ _ (by decide), q81]; exact i8
      · rw [setI_ne _ _ _ (by decide), q81]; exact i9
      · rw [setI_ne _ _ _ (by decide), q81]; exact i10 k hk
      · rw [setI_ne _ _ _ (by decide), q83]; exact i11 i hi k hk
    | succ n ih =>
      intro x S1 hx f1 e80 ew eb
      have hd := d20 x (by omega)
      refine eX12_feed_42 hρ2 (Nat.le_refl _) (Nat.le_refl _) (by omega) (Nat.lt_succ_self _) (newR_new hρ 5 5) hF ?_
      rw [if_neg (show ¬ (20 : Int32) ≤ nI x from nI_ge (b := 20) (by omega) (by omega)), hd.2, hd.1, e80, hI.1, nI_add, nI_clamp (by omega), nI_clamp (by omega), ew (x / 4) (by omega), byte_val _ (by omega), nI_1]
      refine ⟨vp_in_nI (by omega) (by omega), vp_in_nI (by omega) (by omega), ih (x + 1) _ (by omega) (f1.tr (Fr.setI _ _ _ (Or.inr (Or.inl rfl)))) ?_ (fun i hi => ?_) (fun i hi => ?_)⟩
      · rw [setI_ne _ _ _ (by decide)]; exact e80
      · rw [setI_ne _ _ _ (by omega)]; exact ew i hi
      · rw [setI_at]
        by_cases c : i = tL a + x
        · rw [if_pos ⟨rfl, c⟩, c]
          unfold fedB
          rw [if_neg (by omega), show tL a + x - tL a = x by omega]
        · rw [if_neg (fun z => c z.2)]; exact eb i (by omega)
  have r84 : rn ρ ≠ 84 := by omega
  have r80 : rn ρ ≠ 80 := by omega
  refine key 20 0 _ (by omega) ?_ ?_ (fun i hi => ?_) (fun i hi => ?_)
  · exact (((((newS_fr S (rn ρ)).mono (fun k hk => Or.inr (Or.inr hk))).tr (Fr.setI _ _ _ (Or.inr (Or.inr rfl)))).tr (Fr.setI _ _ _ (Or.inr (Or.inr rfl)))).tr (Fr.setI _ _ _ (Or.inr (Or.inr rfl)))).tr ((Fr.setI _ _ _ (Or.inr (Or.inr rfl))).tr (Fr.setI _ _ _ (Or.inr (Or.inr rfl))))
  · rw [setI_ne _ _ _ (Ne.symm r80), setI_ne _ _ _ (Ne.symm r80), setI_ne _ _ _ (Ne.symm r80), setI_ne _ _ _ (Ne.symm r80), setI_ne _ _ _ (Ne.symm r80)]
    exact (newS_fr S (rn ρ) 80 (Ne.symm r80)).1
  · rcases (show i = 0 ∨ i = 1 ∨ i = 2 ∨ i = 3 ∨ i = 4 by omega) with rfl | rfl | rfl | rfl | rfl <;> simp [setI_at, wd5]
  · rw [setI_ne _ _ _ (Ne.symm r84), setI_ne _ _ _ (Ne.symm r84), setI_ne _ _ _ (Ne.symm r84), setI_ne _ _ _ (Ne.symm r84), setI_ne _ _ _ (Ne.symm r84), (newS_fr S (rn ρ) 84 (Ne.symm r84)).1]
    unfold fedB
    rw [if_pos (by omega)]
    exact hI.2.1 i (by omega)
end F1
