-- 1: the table as it is, found; 2: one picked
theorem flt_unp {a : AS} {p : Nat} {S : St} (hi : ∀ y x, y < nR a → x < nC a → S.1 85 (y * nC a + x) = nI (unp p y x)) {k : Nat} (hk : k < nR a * nC a) : S.1 85 k = nI (flt (nC a) (unp p) k) := by
  have hC : 0 < nC a := Nat.pos_of_ne_zero (fun z => by rw [z, Nat.mul_zero] at hk; omega)
  have h1 : k / nC a < nR a := Nat.div_lt_of_lt_mul (by rw [Nat.mul_comm]; exact hk)
  have h2 := Nat.mod_lt k hC
  have h3 := Nat.div_add_mod k (nC a)
  have h4 := hi (k / nC a) (k % nC a) h1 h2
  rw [Nat.mul_comm, h3] at h4
  exact h4
theorem flt_nw {a : AS} (hW : WF a) (hR : nR a ≠ 0) {p : Nat} (hp : p ∈ KK a) : (∀ k, k < nR a * nC a → flt (nC a) (unp p) k = flt (nC a) (cel a) k) ↔ p = pack (cel a) := by
  have ht := hW.told hR
  have hcT := ht.2.2.2.2.2.2.2.2.2.1
  obtain ⟨p1, p2, p3⟩ := KK_tab hW hR hp
  constructor
  · intro h
    rw [← p3]
    congr 1
    funext y x
    by_cases c : y < nR a ∧ x < nC a
    · have := h (y * nC a + x) (idx_lt c.1 c.2)
      rw [flt_at _ c.2, flt_at _ c.2] at this
      exact this
    · rw [p1.1 y x c, hcT.1 y x c]
  · intro h k _
    rw [h, (KK_of hW hR hcT (Sam.rf _)).2]
section FD
variable {g : GX} {d : Nat} {ρ : Rs} {S : St} {a : AS}
theorem sM_finds {Q : St → Prop} (hρ : Ok ρ) (hF : ∀ k ∈ ([80] : List Nat), gF g k) (hW : WF a) (hR : nR a ≠ 0) (hI : IM a S) {p : Nat} (hp : p ∈ KK a) (hi : ∀ y x, y < nR a → x < nC a → S.1 85 (y * nC a + x) = nI (unp p y x)) (h1 : p = pack (cel a) → Q (setI (setL S 80 17 (S.2 80 15)) 80 14 1)) (h0 : p ≠ pack (cel a) → Q (setI (setL S 80 17 (S.2 80 17)) 80 14 0)) : CALLv g (d + 1) mX12_finds [.ref 80] ρ ρ S Q := by
  have hl := hW.le
  have e2 := mul44 hl.1 hl.2.1
  refine eX12_finds hρ ?_
  have key : ∀ n k, k + n = nR a * nC a → ((∀ j, j < k → flt (nC a) (unp p) j = flt (nC a) (cel a) j) → AW g ρ (QV Q) (d + 1) mX12_finds 4 [(0, .ref 80), (1, .int 1), (2, .int (nI k))] [] ρ S) ∧ ((∃ j, j < nR a * nC a ∧ flt (nC a) (unp p) j ≠ flt (nC a) (cel a) j) → AW g ρ (QV Q) (d + 1) mX12_finds 4 [(0, .ref 80), (1, .int 0), (2, .int (nI k))] [] ρ S) := by
    intro n
    induction n with
    | zero =>
      intro k hk
      constructor
      · intro hj
        refine eX12_finds_4 hρ hF (sM_many hρ hI ?_)
        rw [if_pos (nI_le (by omega) (by omega)), if_neg (by decide)]
        exact ⟨Or.inr rfl, h1 ((flt_nw hW hR hp).mp (fun j hj2 => hj j (by omega)))⟩
      · rintro ⟨j, j1, j2⟩
        refine eX12_finds_4 hρ hF (sM_many hρ hI ?_)
        rw [if_pos (nI_le (by omega) (by omega)), if_pos rfl]
        exact ⟨Or.inl rfl, h0 (fun z => j2 ((flt_nw hW hR hp).mpr z j j1))⟩
    | succ n ih =>
      intro k hk
      obtain ⟨i1, i0⟩ := ih (k + 1) (by omega)
      constructor
      · intro hj
        refine eX12_finds_4 hρ hF (sM_many hρ hI ?_)
        rw [if_neg (nI_ge (by omega) (by omega)), if_neg (by decide)]
        have e3 : (5 : Int32) + nI k = nI (5 + k) := nI_add 5 _
        rw [e3, nI_clamp (by omega), nI_clamp (by omega), flt_unp hi (show k < nR a * nC a by omega), hI.2.2.2.2.2.2.2.2.2.1 k (by omega), nI_1]
        refine ⟨vp_in_nI (by omega) (by omega), vp_in_nI (by omega) (by omega), ?_⟩
        have b1 : flt (nC a) (unp p) k < 16 := unp_lt _ _ _
        have b2 : flt (nC a) (cel a) k < 16 := hW.lt16 _ _
        by_cases c : flt (nC a) (unp p) k = flt (nC a) (cel a) k
        · rw [if_pos (by rw [c])]
          refine i1 (fun j hj2 => ?_)
          by_cases c2 : j = k
          · rw [c2]; exact c
          · exact hj j (by omega)
        · rw [if_neg (by rw [nI_eq (by omega) (by omega)]; exact c)]
          exact i0 ⟨k, by omega, c⟩
      · intro hj
        refine eX12_finds_4 hρ hF (sM_many hρ hI ?_)
        rw [if_neg (nI_ge (by omega) (by omega)), if_pos rfl, nI_1]
        exact i0 hj
  exact (key (nR a * nC a) 0 (by omega)).1 (fun j hj => absurd hj (by omega))
theorem pre_mem {L M : List Nat} {p : Nat} (h : (L ++ [p]) <+: M) : p ∈ M := h.subset (by simp)
-- 1
def P1f (a : AS) (L : List Nat) (S : St) : Prop := (pack (cel a) ∉ L ∧ S.1 80 14 = 0 ∧ S.2 80 17 = -1) ∨ ∃ L0, L = L0 ++ [pack (cel a)] ∧ S.1 80 14 = 1 ∧ S.2 80 17 = lN L0.length
theorem sM_rankOf {Q : Int64 → St → Prop} (hρ : Ok ρ) (hF : ∀ k ∈ ([80, 85, 86, 87] : List Nat), gF g k) (hW : WF a) (hR : nR a ≠ 0) (hI : IM a S) (h : ∀ S', IM a S' → Q (lN (rkK a (pack (cel a)))) S') : CALLl g (d + 21) mX12_rankOf [.ref 80] ρ ρ S Q := by
  have ht := hW.told hR
  have hcT := ht.2.2.2.2.2.2.2.2.2.1
  refine eX12_rankOf hρ ?_
  refine sM_goesAll (D := d + 2) (J := JT a 1 (P1f a)) hρ hF hW hR (fun e => ?_) (JT.z hI ?_) (fun S' M h1 h2 h3 => ?_)
  · have st : ∀ L S S', P1f a L S → S'.1 80 = S.1 80 → S'.2 80 = S.2 80 → P1f a L S' := by
      intro L S S' h e1 e2
      unfold P1f
      rw [e1, e2]
      exact h
    refine JT.c (fun L S S' h f => st L S S' h (f 80 (by omega)).1 (f 80 (by omega)).2) (fun L S S' h _ f => st L S S' h (f 80 (by omega)).1 (f 80 (by omega)).2) (fun L p S Q hI2 h13 h15 hP ho hi hp hQ => ?_)
    rw [show d + 2 + e = (d + e + 1) + 1 by omega]
    refine eX12_visits hρ (fun k hk => hF k (by simp at hk; simp [hk])) ?_
    rw [h13, if_pos (show nI 1 = (1 : Int32) from rfl)]
    have hP2 : pack (cel a) ∉ L ∧ S.2 80 17 = -1 := by
      rcases hP with q | ⟨L0, -, q, -⟩
      · exact ⟨q.1, q.2.2⟩
      · rw [ho] at q; exact absurd q (by decide)
    refine sM_finds hρ (fun k hk => hF k (by simp at hk; simp [hk])) hW hR hI2 (pre_mem hp) hi (fun ep => ?_) (fun np => ?_)
    · refine hQ _ ((hI2.lng _ _ _).fld _ (by omega)) ?_ ?_ (Or.inr ⟨L, by rw [ep], ?_, ?_⟩) ?_ ?_ ?_
      · rw [setI_at, if_neg (by omega)]; exact h13
      · rw [setI_L, setL_at, if_neg (by omega)]; exact h15
      · rw [setL_I, setI_at, if_pos ⟨rfl, rfl⟩]
      · rw [setL_at, if_neg (by omega), setI_L, setL_at, if_pos ⟨rfl, rfl⟩, h15]
      · rw [setI_ne _ _ _ (by decide)]; rfl
      · rw [setI_ne _ _ _ (by decide)]; rfl
      · rw [setI_ne _ _ _ (by decide)]; rfl
    · refine hQ _ ((hI2.lng _ _ _).fld _ (by omega)) ?_ ?_ (Or.inl ⟨?_, ?_, ?_⟩) ?_ ?_ ?_
      · rw [setI_at, if_neg (by omega)]; exact h13
      · rw [setI_L, setL_at, if_neg (by omega)]; exact h15
      · intro z
        rcases List.mem_append.mp z with z | z
        · exact hP2.1 z
        · exact np (List.mem_singleton.mp z).symm
      · rw [setL_I, setI_at, if_pos ⟨rfl, rfl⟩]
      · rw [setL_at, if_neg (by omega), setI_L, setL_at, if_pos ⟨rfl, rfl⟩]; exact hP2.2
      · rw [setI_ne _ _ _ (by decide)]; rfl
      · rw [setI_ne _ _ _ (by decide)]; rfl
      · rw [setI_ne _ _ _ (by decide)]; rfl
  · refine Or.inl ⟨by simp, ?_, ?_⟩
    · rw [setL_I, setL_I, setI_at, if_pos ⟨rfl, rfl⟩]
    · rw [setL_at, if_pos ⟨rfl, rfl⟩]
  · rcases h2.2.2.2 with ⟨q1, q2, q3⟩ | ⟨L0, q1, q2, q3⟩
    · rw [h3 q2] at q1
      exact absurd (KK_of hW hR hcT (Sam.rf _)).1 q1
    · rw [q1] at h1
      rw [q3, ← rkK_pre h1]
      exact h S' h2.1
-- 2
def P2f (a : AS) (m : Nat) (L : List Nat) (S : St) : Prop := S.2 80 16 = lN m ∧ ((L.length ≤ m ∧ S.1 80 14 = 0) ∨ ∃ L0 p, L = L0 ++ [p] ∧ L0.length = m ∧ S.1 80 14 = 1 ∧ ∀ y x, y < nR a → x < nC a → S.1 85 (y * nC a + x) = nI (unp p y x))
theorem sM_pick {Q : St → Prop} (hρ : Ok ρ) (hF : ∀ k ∈ ([80, 85, 86, 87] : List Nat), gF g k) (hW : WF a) (hR : nR a ≠ 0) (hI : IM a S) {m : Nat} (hm : m < 2 ^ 63) (h16 : S.2 80 16 = lN m) (h0 : ∀ S', IM a S' → (KK a)[m]? = none → S'.1 80 14 = 0 → Q S') (h1 : ∀ S' p, IM a S' → (KK a)[m]? = some p → S'.1 80 14 = 1 → (∀ y x, y < nR a → x < nC a → S'.1 85 (y * nC a + x) = nI (unp p y x)) → Q S') : CALLv g (d + 19) mX12_goesAll [.ref 80, .int 2] ρ ρ S Q := by
  refine sM_goesAll (D := d + 1) (x1 := nI 2) (J := JT a 2 (P2f a m)) hρ hF hW hR (fun e => ?_) (JT.z hI ?_) (fun S' M k1 k2 k3 => ?_)
  · refine JT.c (fun L S S' h f => ?_) (fun L S S' h ho f => ?_) (fun L p S Q hI2 h13 h15 hP ho hi hp hQ => ?_)
    · have e1 := f 80 (by omega)
      have e2 := (f 85 (by omega)).1
      unfold P2f
      rw [e1.1, e1.2, e2]
      exact h
    · have e1 := f 80 (by omega)
      rcases h.2 with q | ⟨L0, p, q1, q2, q3, q4⟩
      · unfold P2f
        rw [e1.1, e1.2]
        exact ⟨h.1, Or.inl q⟩
      · rw [ho] at q3; exact absurd q3 (by decide)
    · have hP2 : L.length ≤ m := by
        rcases hP.2 with q | ⟨L0, p, -, -, q, -⟩
        · exact q.1
        · rw [ho] at q; exact absurd q (by decide)
      rw [show d + 1 + e = (d + e) + 1 by omega]
      refine eX12_visits hρ (fun k hk => hF k (by simp at hk; simp [hk])) ?_
      rw [h13, if_neg (by decide), if_pos (show nI 2 = (2 : Int32) from rfl), h15, hP.1]
      by_cases c : L.length = m
      · rw [if_pos (by rw [c])]
        refine hQ _ (hI2.fld _ (by omega)) ?_ ?_ ⟨?_, Or.inr ⟨L, p, rfl, c, ?_, ?_⟩⟩ ?_ ?_ ?_
        · rw [setI_at, if_neg (by omega)]; exact h13
        · rw [setI_L]; exact h15
        · rw [setL_at, if_neg (by omega), setI_L]; exact hP.1
        · rw [setL_I, setI_at, if_pos ⟨rfl, rfl⟩]
        · intro y x hy hx
          rw [setL_I, setI_ne _ _ _ (by decide)]
          exact hi y x hy hx
        · rw [setI_ne _ _ _ (by decide)]
        · rw [setI_ne _ _ _ (by decide)]
        · rw [setI_ne _ _ _ (by decide)]
      · rw [if_neg (by rw [lNeq (by omega) (by omega)]; exact c)]
        refine hQ _ (hI2.fld _ (by omega)) ?_ ?_ ⟨?_, Or.inl ⟨?_, ?_⟩⟩ ?_ ?_ ?_
        · rw [setI_at, if_neg (by omega)]; exact h13
        · rw [setI_L]; exact h15
        · rw [setL_at, if_neg (by omega), setI_L]; exact hP.1
        · rw [List.length_append]
          show L.length + 1 ≤ m
          omega
        · rw [setL_I, setI_at, if_pos ⟨rfl, rfl⟩]
        · rw [setI_ne _ _ _ (by decide)]
        · rw [setI_ne _ _ _ (by decide)]
        · rw [setI_ne _ _ _ (by decide)]
  · refine ⟨?_, Or.inl ⟨Nat.zero_le _, ?_⟩⟩
    · rw [setL_at, if_neg (by omega), setL_at, if_neg (by omega), setI_L, setI_L]; exact h16
    · rw [setL_I, setL_I, setI_at, if_pos ⟨rfl, rfl⟩]
  · rcases k2.2.2.2.2 with ⟨q1, q2⟩ | ⟨L0, p, q1, q2, q3, q4⟩
    · refine h0 S' k2.1 ?_ q2
      rw [k3 q2] at q1
      exact List.getElem?_eq_none q1
    · refine h1 S' p k2.1 ?_ q3 q4
      obtain ⟨N, hN⟩ := k1
      rw [← hN, q1, List.append_assoc, List.getElem?_append_right (by omega), q2, Nat.sub_self]
      rfl
end FD
