-- WHAT THE MODEL DOES ON ITS WAY THROUGH THE TABLES
theorem IM.of {a : AS} {S S' : St} (hI : IM a S) (e4 : S'.1 80 4 = S.1 80 4) (e5 : S'.1 80 5 = S.1 80 5) (e6 : S'.1 80 6 = S.1 80 6) (e81 : S'.1 81 = S.1 81) (e83 : S'.1 83 = S.1 83) (e84 : S'.1 84 = S.1 84) : IM a S' := by
  unfold IM
  rw [e4, e5, e6, e81, e83, e84]
  exact hI
/-- a field behind the sixth of the model may change -/
theorem IM.fld {a : AS} {S : St} (hI : IM a S) {j : Nat} (v : Int32) (hj : 6 < j) : IM a (setI S 80 j v) :=
  hI.of (by rw [setI_at, if_neg (by omega)]) (by rw [setI_at, if_neg (by omega)]) (by rw [setI_at, if_neg (by omega)]) (setI_ne _ _ _ (by decide)) (setI_ne _ _ _ (by decide)) (setI_ne _ _ _ (by decide))
theorem IM.lng {a : AS} {S : St} (hI : IM a S) (k j : Nat) (v : Int64) : IM a (setL S k j v) := hI
theorem lNeq {m n : Nat} (hm : m < 2 ^ 64) (hn : n < 2 ^ 64) : lN m = lN n ↔ m = n := by
  constructor
  · intro h
    have := congrArg (fun v : Int64 => v.toBitVec.toNat) h
    rw [lN_nat hm, lN_nat hn] at this
    exact this
  · intro h; rw [h]
theorem KK_len (a : AS) : (KK a).length ≤ 2 ^ 64 := by
  have h := List.length_filter_le (inK a) (List.range top64)
  rw [List.length_range] at h
  exact h
/-- how many are before -/
def rkK (a : AS) (p : Nat) : Nat := ((KK a).filter (fun q => decide (q < p))).length
theorem rkK_pre {a : AS} {L0 : List Nat} {p : Nat} (h : (L0 ++ [p]) <+: KK a) : rkK a p = L0.length := by
  obtain ⟨M, hM⟩ := h
  have hs := KK_sorted a
  unfold rkK
  rw [← hM] at hs ⊢
  rw [List.pairwise_append, List.pairwise_append] at hs
  obtain ⟨⟨-, -, s1⟩, -, s2⟩ := hs
  rw [List.filter_append, List.filter_append]
  have e1 : L0.filter (fun q => decide (q < p)) = L0 := List.filter_eq_self.mpr fun q hq => decide_eq_true (s1 q hq p (by simp))
  have e2 : [p].filter (fun q => decide (q < p)) = [] := by simp
  have e3 : M.filter (fun q => decide (q < p)) = [] := List.filter_eq_nil_iff.mpr fun q hq => by
    have := s2 p (by simp) q hq
    simp
    omega
  rw [e1, e2, e3, List.append_nil, List.append_nil]
theorem sub_all (a : AS) : sub a (lai (nC a) 0 0) (fun _ _ => 0) = KK a := by
  unfold sub
  rw [List.filter_eq_self]
  intro p _
  rw [agr_iff]
  intro y x _ _ h
  rw [lai_iff] at h
  omega
section TK
variable {g : GX} {d : Nat} {ρ : Rs} {S : St} {a : AS}
theorem sM_goesAll {D : Nat} (hρ : Ok ρ) (hF : ∀ k ∈ ([80, 85, 86, 87] : List Nat), gF g k) (hW : WF a) (hR : nR a ≠ 0) {J : List Nat → St → Prop} (hJ : ∀ e, JC g (D + e) ρ a J) {x1 : Int32} {Q : St → Prop} (h0 : J [] (setL (setL (setI (setI S 80 13 x1) 80 14 0) 80 15 0) 80 17 (-1))) (hQ : ∀ S' M, M <+: KK a → J M S' → (S'.1 80 14 = 0 → M = KK a) → Q S') : CALLv g (D + 18) mX12_goesAll [.ref 80, .int x1] ρ ρ S Q := by
  have hl := hW.le
  have e2 := mul44 hl.1 hl.2.1
  obtain ⟨t1, t2, t3, t4, -⟩ := hW.told hR
  have hJ0 := hJ 0
  refine eX12_goesAll hρ (fun k hk => hF k (by simp at hk; simp [hk])) ?_
  have ho : (setL (setL (setI (setI S 80 13 x1) 80 14 0) 80 15 0) 80 17 (-1)).1 80 14 = 0 := by
    rw [setL_I, setL_I, setI_at, if_pos ⟨rfl, rfl⟩]
  generalize setL (setL (setI (setI S 80 13 x1) 80 14 0) 80 15 0) 80 17 (-1) = S0 at h0 ho ⊢
  have cols : ∀ n x S1, x + n = nC a → J [] S1 → S1.1 80 14 = 0 → (∀ y, y < nR a → S1.1 86 y = nI (rsum (cel a) y)) → (∀ j, j < x → S1.1 87 j = nI (csum (cel a) j)) → AW g ρ (QV Q) (D + 17 + 1) mX12_goesAll 53 [(0, .ref 80), (2, .int (nI x))] [] ρ S1 := by
    intro n
    induction n with
    | zero =>
      intro x S1 hx j1 j2 j3 j4
      have hI := hJ0.1 _ _ j1
      refine eX12_goesAll_53 hρ (fun k hk => hF k (by simp at hk; simp [hk])) ?_
      rw [hI.2.2.2.2.2.1, if_pos (nI_le (by omega) (by omega))]
      have e := sM_goes (D := D + (16 - nR a * nC a)) hρ hF hW hR (hJ (16 - nR a * nC a)) (nR a * nC a) 0 0 (fun _ _ => 0) [] S1 (fun S1 => Q S1) (by omega) (by omega) (by omega) (fun _ => rfl) ?_ ?_ j1 j2 ?_ ?_
      · rw [show D + (16 - nR a * nC a) + 1 + nR a * nC a = D + 17 by omega, Nat.zero_mul] at e
        exact e
      · refine ⟨fun _ _ _ => rfl, fun _ _ _ => rfl, fun y => ?_, fun x => ?_, fun y hy => absurd hy (by omega), fun x hx q => ?_⟩
        · rw [rsum0 (fun _ => rfl)]; exact Nat.zero_le _
        · rw [csum0 (fun _ => rfl)]; exact Nat.zero_le _
        · omega
      · refine ⟨fun y x q => ?_, fun y q => ?_, fun x q => ?_⟩
        · rw [lai_iff] at q; omega
        · rw [rsum0 (t := fun _ _ => 0) (fun _ => rfl), j3 y q]; rfl
        · rw [csum0 (t := fun _ _ => 0) (fun _ => rfl), j4 x (by omega)]; rfl
      · rw [sub_all, List.nil_append]; exact List.prefix_refl _
      · intro S' M _ h2 h3 h4
        rw [sub_all] at h2 h4
        rw [List.nil_append] at h3
        exact hQ S' M h2 h3 h4
    | succ n ih =>
      intro x S1 hx j1 j2 j3 j4
      have hI := hJ0.1 _ _ j1
      refine eX12_goesAll_53 hρ (fun k hk => hF k (by simp at hk; simp [hk])) ?_
      rw [hI.2.2.2.2.2.1, if_neg (nI_ge (by omega) (by omega))]
      refine sM_sumOfColumn hρ hW hI (show x < nC a by omega) ?_
      refine ⟨vp_in_nI (by omega) (by omega), ?_⟩
      rw [nI_1, nI_clamp (by omega)]
      refine ih (x + 1) _ (by omega) (hJ0.2.1 _ _ _ j1 (Fr.setI (F := fun k => k = 86 ∨ k = 87) _ _ _ (Or.inr rfl))) (by rw [setI_ne _ _ _ (by decide)]; exact j2) (fun y hy => by rw [setI_ne _ _ _ (by decide)]; exact j3 y hy) (fun j hj => ?_)
      rw [setI_at]
      by_cases c : j = x
      · rw [if_pos ⟨rfl, c⟩, c]
      · rw [if_neg (fun z => c z.2)]
        exact j4 j (by omega)
  have rows : ∀ n y S1, y + n = nR a → J [] S1 → S1.1 80 14 = 0 → (∀ j, j < y → S1.1 86 j = nI (rsum (cel a) j)) → AW g ρ (QV Q) (D + 17 + 1) mX12_goesAll 24 [(0, .ref 80), (2, .int (nI y))] [] ρ S1 := by
    intro n
    induction n with
    | zero =>
      intro y S1 hy j1 j2 j3
      have hI := hJ0.1 _ _ j1
      refine eX12_goesAll_24 hρ (fun k hk => hF k (by simp at hk; simp [hk])) ?_
      rw [hI.2.2.2.2.1, if_pos (nI_le (by omega) (by omega))]
      exact cols (nC a) 0 S1 (by omega) j1 j2 (fun y' h => j3 y' (by omega)) (fun j hj => absurd hj (by omega))
    | succ n ih =>
      intro y S1 hy j1 j2 j3
      have hI := hJ0.1 _ _ j1
      refine eX12_goesAll_24 hρ (fun k hk => hF k (by simp at hk; simp [hk])) ?_
      rw [hI.2.2.2.2.1, if_neg (nI_ge (by omega) (by omega))]
      refine sM_sumOfRow hρ hW hI (show y < nR a by omega) ?_
      refine ⟨vp_in_nI (by omega) (by omega), ?_⟩
      rw [nI_1, nI_clamp (by omega)]
      refine ih (y + 1) _ (by omega) (hJ0.2.1 _ _ _ j1 (Fr.setI (F := fun k => k = 86 ∨ k = 87) _ _ _ (Or.inl rfl))) (by rw [setI_ne _ _ _ (by decide)]; exact j2) (fun j hj => ?_)
      rw [setI_at]
      by_cases c : j = y
      · rw [if_pos ⟨rfl, c⟩, c]
      · rw [if_neg (fun z => c z.2)]
        exact j3 j (by omega)
  exact rows (nR a) 0 S0 (by omega) h0 ho (fun j hj => absurd hj (by omega))
/-- a task: what it keeps beside the number of the seen -/
def JT (a : AS) (tk : Nat) (P : List Nat → St → Prop) (L : List Nat) (S : St) : Prop := IM a S ∧ S.1 80 13 = nI tk ∧ S.2 80 15 = lN L.length ∧ P L S
theorem JT.c {D tk : Nat} {P : List Nat → St → Prop} (P1 : ∀ L S S', P L S → Fr (fun k => k = 86 ∨ k = 87) S S' → P L S') (P2 : ∀ L S S', P L S → S.1 80 14 = 0 → Fr (fun k => k = 85) S S' → P L S')
    (P3 : ∀ L p S (Q : St → Prop), IM a S → S.1 80 13 = nI tk → S.2 80 15 = lN L.length → P L S → S.1 80 14 = 0 → (∀ y x, y < nR a → x < nC a → S.1 85 (y * nC a + x) = nI (unp p y x)) → (L ++ [p]) <+: KK a → (∀ S2, IM a S2 → S2.1 80 13 = nI tk → S2.2 80 15 = lN L.length → P (L ++ [p]) (setL S2 80 15 (lN (L.length + 1))) → S2.1 85 = S.1 85 → S2.1 86 = S.1 86 → S2.1 87 = S.1 87 → Q S2) → CALLv g D mX12_visits [.ref 80] ρ ρ S Q) : JC g D ρ a (JT a tk P) := by
  refine ⟨fun L S h => h.1, fun L S S' h f => ?_, fun L S S' h ho f => ?_, fun L p S Q h ho hi hp hQ => ?_⟩
  · have q80 := f 80 (by omega)
    exact ⟨h.1.fr (fun k hk => by omega) f, by rw [q80.1]; exact h.2.1, by rw [q80.2]; exact h.2.2.1, P1 L S S' h.2.2.2 f⟩
  · have q80 := f 80 (by omega)
    exact ⟨h.1.fr (fun k hk => by omega) f, by rw [q80.1]; exact h.2.1, by rw [q80.2]; exact h.2.2.1, P2 L S S' h.2.2.2 ho f⟩
  · refine P3 L p S Q h.1 h.2.1 h.2.2.1 h.2.2.2 ho hi hp (fun S2 k1 k2 k3 k4 => hQ S2 ?_)
    refine ⟨k1.lng _ _ _, k2, ?_, ?_⟩
    · rw [setL_at, if_pos ⟨rfl, rfl⟩, k3, lN_1, List.length_append]; rfl
    · rw [k3, lN_1]; exact k4
/-- the first of all, behind what goesAll sets -/
theorem JT.z {tk : Nat} {P : List Nat → St → Prop} (hI : IM a S) (h : P [] (setL (setL (setI (setI S 80 13 (nI tk)) 80 14 0) 80 15 0) 80 17 (-1))) : JT a tk P [] (setL (setL (setI (setI S 80 13 (nI tk)) 80 14 0) 80 15 0) 80 17 (-1)) := by
  refine ⟨(((hI.fld _ (by omega)).fld _ (by omega)).lng _ _ _).lng _ _ _, ?_, ?_, h⟩
  · rw [setL_I, setL_I, setI_at, if_neg (by omega), setI_at, if_pos ⟨rfl, rfl⟩]
  · rw [setL_at, if_neg (by omega), setL_at, if_pos ⟨rfl, rfl⟩]; rfl
-- 0: only counted
def P0 (_ : List Nat) (S : St) : Prop := S.1 80 14 = 0
theorem sM_tablesOf {Q : Int64 → St → Prop} (hρ : Ok ρ) (hF : ∀ k ∈ ([80, 85, 86, 87] : List Nat), gF g k) (hW : WF a) (hR : nR a ≠ 0) (hI : IM a S) (h : ∀ S', IM a S' → Q (lN (KK a).length) S') : CALLl g (d + 20) mX12_tablesOf [.ref 80] ρ ρ S Q := by
  refine eX12_tablesOf hρ ?_
  refine sM_goesAll (D := d + 1) (J := JT a 0 P0) hρ hF hW hR (fun e => ?_) (JT.z hI ?_) (fun S' M h1 h2 h3 => ?_)
  · refine JT.c (fun L S S' h f => ?_) (fun L S S' h _ f => ?_) (fun L p S Q hI2 h13 h15 hP ho hi hp hQ => ?_)
    · have q := (f 80 (by omega)).1
      show S'.1 80 14 = 0
      rw [q]; exact h
    · have q := (f 80 (by omega)).1
      show S'.1 80 14 = 0
      rw [q]; exact h
    · rw [show d + 1 + e = (d + e) + 1 by omega]
      refine eX12_visits hρ (fun k hk => hF k (by simp at hk; simp [hk])) ?_
      rw [h13, if_neg (by decide), if_neg (by decide), if_neg (by decide), if_neg (by decide), if_neg (by decide), if_neg (by decide)]
      exact hQ S hI2 h13 h15 ho rfl rfl rfl
  · show (setL (setL (setI (setI S 80 13 (nI 0)) 80 14 0) 80 15 0) 80 17 (-1)).1 80 14 = 0
    rw [setL_I, setL_I, setI_at, if_pos ⟨rfl, rfl⟩]
  · rw [h2.2.2.1, h3 h2.2.2.2]
    exact h S' h2.1
end TK
