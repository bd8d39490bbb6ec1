-- THE MODEL'S WAY THROUGH THE TABLES, in the store
def GS (a : AS) (Y X : Nat) (t : Nat → Nat → Nat) (S : St) : Prop :=
  (∀ y x, lai (nC a) Y X y x = true → S.1 85 (y * nC a + x) = nI (t y x)) ∧ (∀ y, y < nR a → S.1 86 y = nI (rsum (cel a) y - rsum t y)) ∧ ∀ x, x < nC a → S.1 87 x = nI (csum (cel a) x - csum t x)
/-- what is kept while the tables are gone through, those of L behind -/
def JC (g : GX) (D : Nat) (ρ : Rs) (a : AS) (J : List Nat → St → Prop) : Prop :=
  (∀ L S, J L S → IM a S) ∧ (∀ L S S', J L S → Fr (fun k => k = 86 ∨ k = 87) S S' → J L S') ∧ (∀ L S S', J L S → S.1 80 14 = 0 → Fr (fun k => k = 85) S S' → J L S') ∧
  ∀ L p S (Q : St → Prop), J L S → S.1 80 14 = 0 → (∀ y x, y < nR a → x < nC a → S.1 85 (y * nC a + x) = nI (unp p y x)) → (L ++ [p]) <+: KK a →
    (∀ S2, J (L ++ [p]) (setL S2 80 15 (S2.2 80 15 + 1)) → S2.1 85 = S.1 85 → S2.1 86 = S.1 86 → S2.1 87 = S.1 87 → Q S2) → CALLv g D mX12_visits [.ref 80] ρ ρ S Q
theorem idx_inj {C y x y' x' : Nat} (hx : x < C) (hx' : x' < C) (h : y * C + x = y' * C + x') : y = y' ∧ x = x' := by
  have hC : 0 < C := by omega
  have e1 : (y * C + x) / C = y := by rw [Nat.mul_comm, Nat.mul_add_div hC, Nat.div_eq_of_lt hx, Nat.add_zero]
  have e2 : (y' * C + x') / C = y' := by rw [Nat.mul_comm, Nat.mul_add_div hC, Nat.div_eq_of_lt hx', Nat.add_zero]
  have e3 : y = y' := by rw [← e1, ← e2, h]
  subst e3
  exact ⟨rfl, by omega⟩
section G
variable {g : GX} {d : Nat} {ρ : Rs} {S : St} {a : AS}
theorem sM_hasPlace {Q : Int32 → St → Prop} (hρ : Ok ρ) (hW : WF a) (hI : IM a S) {Y X l : Nat} {t : Nat → Nat → Nat} (hY : Y < nR a) (hX : X < nC a) (hl2 : l < 100) (hs : ∀ x, csum (cel a) x ≤ 20) (h87 : ∀ x, x < nC a → S.1 87 x = nI (csum (cel a) x - csum t x)) (h : Q (if l ≤ rmS a Y t (nC a - X - 1) (X + 1) then 1 else 0) S) : CALLi g (d + 1) mX12_hasPlace [.ref 80, .int (nI Y), .int (nI X), .int (nI l)] ρ ρ S Q := by
  have hl := hW.le
  have e2 := mul44 hl.1 hl.2.1
  have e3 := hM_lt a hW
  refine eX12_hasPlace hρ ?_
  have key : ∀ n x r, x + n = nC a → r + 20 * n ≤ 80 → AW g ρ (QI (fun v S' => S' = S ∧ v = if l ≤ r + rmS a Y t n x then 1 else 0)) (d + 1) mX12_hasPlace 8 [(0, .ref 80), (1, .int (nI Y)), (3, .int (nI l)), (4, .int (nI r)), (5, .int (nI x))] [] ρ S := by
    intro n
    induction n with
    | zero =>
      intro x r hx hr
      refine eX12_hasPlace_8 hρ ?_
      rw [hI.2.2.2.2.2.1, if_pos (nI_le (by omega) (by omega))]
      by_cases c : l ≤ r
      · rw [if_neg (by rw [nI_ltI (by omega) (by omega)]; omega)]
        refine ⟨rfl, ?_⟩
        rw [if_pos]
        exact c
      · rw [if_pos (nI_lt (by omega) (by omega))]
        refine ⟨rfl, ?_⟩
        rw [if_neg]
        exact c
    | succ n ih =>
      intro x r hx hr
      refine eX12_hasPlace_8 hρ ?_
      rw [hI.2.2.2.2.2.1, if_neg (nI_ge (by omega) (by omega))]
      refine sM_place hρ hI ?_
      have e1 := idx_lt hY (show x < nC a by omega)
      rw [hI.2.2.2.2.2.2.1]
      refine sM_has hρ (by omega) (by omega) ?_
      rw [hM_bit hY (show x < nC a by omega)]
      cases c : hol a Y x with
      | true =>
        rw [if_neg (by decide), Int32.add_zero, nI_1]
        refine (ih (x + 1) r (by omega) (by omega)).mono (fun r1 S1 _ q => ?_)
        show ∃ v, _
        obtain ⟨v, e, q1, q2⟩ := q
        refine ⟨v, e, q1, ?_⟩
        rw [q2]
        show _ = if l ≤ r + ((if hol a Y x then 0 else _) + _) then (1 : Int32) else 0
        rw [c, if_pos rfl, Nat.zero_add]
      | false =>
        rw [if_pos (show (if false = true then (1 : Int32) else 0) = 0 from rfl), nI_clamp (by omega), h87 x (by omega), nI_add, nI_1]
        refine ⟨vp_in_nI (by omega) (by omega), ?_⟩
        have hs1 := hs x
        refine (ih (x + 1) (r + (csum (cel a) x - csum t x)) (by omega) (by omega)).mono (fun r1 S1 _ q => ?_)
        show ∃ v, _
        obtain ⟨v, e, q1, q2⟩ := q
        refine ⟨v, e, q1, ?_⟩
        rw [q2]
        show _ = if l ≤ r + ((if hol a Y x then 0 else _) + _) then (1 : Int32) else 0
        rw [c, if_neg (show ¬ (false = true) by decide), Nat.add_assoc]
  rw [nI_1]
  refine (key (nC a - X - 1) (X + 1) 0 (by omega) (by omega)).mono (fun r1 S1 _ q => ?_)
  obtain ⟨v, e, q1, q2⟩ := q
  refine ⟨v, e, ?_⟩
  rw [q1, q2, Nat.zero_add]
  exact h
theorem Told.sums {a : AS} (h : Told a) : (∀ y, rsum (cel a) y ≤ 20) ∧ ∀ x, csum (cel a) x ≤ 20 := by
  have h8 := h.2.2.2.2.2.2.2.1
  have hT := h.2.2.2.2.2.2.2.2.2.1
  have h2 := h.2.1
  have h4 := h.2.2.2.1
  unfold tsum at h8
  refine ⟨fun y => ?_, fun x => ?_⟩
  · by_cases c : y < 4
    · have := s4_le (rsum (cel a)) c
      omega
    · rw [hT.rs0 (by omega)]; omega
  · by_cases c : x < 4
    · have e : csum (cel a) x ≤ s4 (rsum (cel a)) := by
        unfold csum rsum
        exact s4_mono (fun y => s4_le (cel a y) c)
      omega
    · rw [hT.cs0 (by omega)]; omega
/-- the tables that go on from what is laid, one by one -/
theorem sM_goes {D : Nat} (hρ : Ok ρ) (hF : ∀ k ∈ ([80, 85, 86, 87] : List Nat), gF g k) (hW : WF a) (hR : nR a ≠ 0) {J : List Nat → St → Prop} (hJ : JC g D ρ a J) : ∀ n Y X t L S (Q : St → Prop), n + (Y * nC a + X) = nR a * nC a → Y ≤ nR a → X < nC a → (Y = nR a → X = 0) → Par a Y X t → GS a Y X t S → J L S → S.1 80 14 = 0 → (L ++ sub a (lai (nC a) Y X) t) <+: KK a →
    (∀ S' M, GS a Y X t S' → M <+: sub a (lai (nC a) Y X) t → J (L ++ M) S' → (S'.1 80 14 = 0 → M = sub a (lai (nC a) Y X) t) → Q S') → CALLv g (D + 1 + n) mX12_goes [.ref 80, .int (nI (Y * nC a + X))] ρ ρ S Q := by
  have hl := hW.le
  have e2 := mul44 hl.1 hl.2.1
  have e3 := hM_lt a hW
  have hTo := hW.told hR
  have hsm := hTo.sums
  obtain ⟨t1, t2, t3, t4, -, -, -, -, t9, -, -⟩ := hTo
  obtain ⟨J1, J2, J3, J4⟩ := hJ
  intro n
  induction n with
  | zero =>
    intro Y X t L S Q hn hY hX hYX hP hG hJL ho hpre hQ
    have eY : Y = nR a ∧ X = 0 := by
      have : Y * nC a + X = nR a * nC a + 0 := by omega
      exact idx_inj hX (by omega) this
    obtain ⟨rfl, rfl⟩ := eY
    have hI := J1 L S hJL
    refine eX12_goes hρ (fun k hk => hF k (by simp at hk; simp [hk])) (sM_many hρ hI ?_)
    rw [if_pos (by rw [Nat.add_zero])]
    obtain ⟨es, eu⟩ := hP.end hW hR
    rw [es] at hpre hQ
    refine J4 L (pack t) S _ hJL ho (fun y x hy hx => ?_) hpre (fun S2 j1 j2 j3 j4 => ?_)
    · rw [eu]
      exact hG.1 y x (lai_iff.mpr ⟨hx, Or.inl hy⟩)
    · refine hQ _ [pack t] ?_ (List.prefix_refl _) j1 (fun _ => rfl)
      refine ⟨fun y x q => ?_, fun y q => ?_, fun x q => ?_⟩
      · show S2.1 85 _ = _
        rw [j2]; exact hG.1 y x q
      · show S2.1 86 _ = _
        rw [j3]; exact hG.2.1 y q
      · show S2.1 87 _ = _
        rw [j4]; exact hG.2.2 x q
  | succ n ih =>
    intro Y X t L S Q hn hY hX hYX hP hG hJL ho hpre hQ
    have hY2 : Y < nR a := by
      refine Nat.lt_of_le_of_ne hY (fun e => ?_)
      have := hYX e
      rw [e, this] at hn
      omega
    have eI := idx_lt hY2 hX
    have eN : nxY (nC a) Y X * nC a + nxX (nC a) X = Y * nC a + X + 1 := by
      unfold nxY nxX
      by_cases c : X + 1 = nC a
      · rw [if_pos c, if_pos c, Nat.succ_mul]; omega
      · rw [if_neg c, if_neg c]; omega
    have eNY : nxY (nC a) Y X ≤ nR a := by unfold nxY; split <;> omega
    have eNX : nxX (nC a) X < nC a := by unfold nxX; split <;> omega
    have eNZ : nxY (nC a) Y X = nR a → nxX (nC a) X = 0 := by
      unfold nxY nxX
      by_cases c : X + 1 = nC a
      · rw [if_pos c, if_pos c]; intro _; rfl
      · rw [if_neg c, if_neg c]; omega
    have hI := J1 L S hJL
    have hr1 := hP.2.2.1 Y
    have hc1 := hP.2.2.2.1 X
    have hsr := hsm.1 Y
    have hsc := hsm.2 X
    have hz := hP.zero
    -- what is left of the row and of the column
    have hrl : ∀ v, rsum (udt t Y X v) Y = rsum t Y + v := fun v => rsum_upd1 (by omega) hz
    have hcl : ∀ v, csum (udt t Y X v) X = csum t X + v := fun v => csum_upd1 (by omega) hz
    have hsplit := sub_split hW hR hY2 hX t
    -- the loop
    have loop : ∀ m v M0 S1 most, m + v = 16 → most < 16 → (∀ w, most < w → ¬ okV a Y X t w) → (∀ w, v ≤ w → w ≤ most → (hol a Y X = true → w = 0) ∧ rsum t Y + w ≤ rsum (cel a) Y ∧ csum t X + w ≤ csum (cel a) X ∧ (X + 1 = nC a → rsum t Y + w = rsum (cel a) Y)) → GS a Y X t S1 → J (L ++ M0) S1 → M0 <+: sub a (lai (nC a) Y X) t → (S1.1 80 14 = 0 → M0 ++ upF (fun v => sub a (lai (nC a) (nxY (nC a) Y X) (nxX (nC a) X)) (udt t Y X v)) m v = sub a (lai (nC a) Y X) t) →
        AW g ρ (QV Q) (D + 1 + n + 1) mX12_goes 124 [(0, .ref 80), (1, .int (nI (Y * nC a + X))), (2, .int (nI Y)), (3, .int (nI X)), (4, .int (nI most)), (6, .int (nI v))] [] ρ S1 := by
      intro m
      induction m with
      | zero =>
        intro v M0 S1 most hm hmo _ _ hG1 hJ1 hp1 hq1
        refine eX12_goes_124 hρ ?_
        rw [if_pos (nI_lt (by omega) (by omega))]
        refine hQ S1 M0 hG1 hp1 hJ1 (fun z => ?_)
        have := hq1 z
        rw [show upF (fun v => sub a (lai (nC a) (nxY (nC a) Y X) (nxX (nC a) X)) (udt t Y X v)) 0 v = [] from rfl, List.append_nil] at this
        exact this
      | succ m ihm =>
        intro v M0 S1 most hm hmo hno hok hG1 hJ1 hp1 hq1
        have hI1 := J1 _ _ hJ1
        refine eX12_goes_124 hρ ?_
        by_cases cv : most < v
        · rw [if_pos (nI_lt (by omega) (by omega))]
          refine hQ S1 M0 hG1 hp1 hJ1 (fun z => ?_)
          have := hq1 z
          rw [upF_nil (m + 1) v (fun w hw => List.eq_nil_iff_forall_not_mem.mpr fun p hp => hno w (by omega) (sub_ok hW hR hY2 hX hP hp).1), List.append_nil] at this
          exact this
        · rw [if_neg (by rw [nI_ltI (by omega) (by omega)]; exact cv)]
          obtain ⟨k1, k2, k3, k4⟩ := hok v (by omega) (by omega)
          have g87 := hG1.2.2 X hX
          have g86 := hG1.2.1 Y hY2
          by_cases co : S1.1 80 14 = 0
          · rw [if_pos co]
            have hq2 := hq1 co
            -- a step that lays nothing
            have skip : sub a (lai (nC a) (nxY (nC a) Y X) (nxX (nC a) X)) (udt t Y X v) = [] → AW g ρ (QV Q) (D + 1 + n + 1) mX12_goes 124 [(0, .ref 80), (1, .int (nI (Y * nC a + X))), (2, .int (nI Y)), (3, .int (nI X)), (4, .int (nI most)), (6, .int (nI v + 1))] [] ρ S1 := by
              intro en
              rw [nI_1]
              refine ihm (v + 1) M0 S1 most (by omega) hmo hno (fun w h1 h2 => hok w (by omega) h2) hG1 hJ1 hp1 (fun _ => ?_)
              rw [← hq2]
              show _ = M0 ++ ((fun v => sub a (lai (nC a) (nxY (nC a) Y X) (nxX (nC a) X)) (udt t Y X v)) v ++ _)
              rw [show (fun v => sub a (lai (nC a) (nxY (nC a) Y X) (nxX (nC a) X)) (udt t Y X v)) v = [] from en]
              rfl
            -- a step that lays the cell
            have step : (Y + 1 = nR a → csum t X + v = csum (cel a) X) → AW g ρ (QV Q) (D + 1 + n + 1) mX12_goes 166 [(0, .ref 80), (1, .int (nI (Y * nC a + X))), (2, .int (nI Y)), (3, .int (nI X)), (4, .int (nI most)), (6, .int (nI v))] [.int 0] ρ S1 := by
              intro k5
              have okv : okV a Y X t v := ⟨k1, k2, k3, k4, k5⟩
              refine eX12_goes_166 hρ (fun k hk => hF k (by simp at hk; rcases hk with h | h | h <;> simp [h])) ?_
              rw [if_pos rfl]
              have eyc : (nI Y).toNatClampNeg = Y := nI_clamp (by omega)
              have exc : (nI X).toNatClampNeg = X := nI_clamp (by omega)
              have ekc : (nI (Y * nC a + X)).toNatClampNeg = Y * nC a + X := nI_clamp (by omega)
              refine ⟨vp_in_nI (by omega) (by omega), ?_⟩
              rw [eyc, exc, ekc, g86, pk_sub (by omega)]
              rw [show D + 1 + n = (D + n) + 1 by omega]
              refine sM_hasPlace (t := t) hρ hW hI1 hY2 hX (by omega) hsm.2 hG1.2.2 ?_
              by_cases cp : rsum (cel a) Y - rsum t Y - v ≤ rmS a Y t (nC a - X - 1) (X + 1)
              · rw [if_pos cp, if_neg (by decide)]
                refine ⟨vp_in_nI (by omega) (by omega), vp_in_nI (by omega) (by omega), vp_in_nI (by omega) (by omega), vp_in_nI (by omega) (by omega), vp_in_nI (by omega) (by omega), ?_⟩
                rw [g86, g87, pk_sub (by omega), pk_sub (by omega), nI_1, ← eN, show (D + n) + 1 = D + 1 + n by omega]
                have f1 : Fr (fun k => k = 85) S1 (setI S1 85 (Y * nC a + X) (nI v)) := Fr.setI (F := fun k => k = 85) S1 _ _ rfl
                have j1 := J3 _ _ _ hJ1 co f1
                have f2 : Fr (fun k => k = 86 ∨ k = 87) (setI S1 85 (Y * nC a + X) (nI v)) (setI (setI (setI S1 85 (Y * nC a + X) (nI v)) 86 Y (nI (rsum (cel a) Y - rsum t Y - v))) 87 X (nI (csum (cel a) X - csum t X - v))) := Fr.tr (Fr.setI (F := fun k => k = 86 ∨ k = 87) _ _ _ (Or.inl rfl)) (Fr.setI (F := fun k => k = 86 ∨ k = 87) _ _ _ (Or.inr rfl))
                have j2 := J2 _ _ _ j1 f2
                have hpl : M0 ++ sub a (lai (nC a) (nxY (nC a) Y X) (nxX (nC a) X)) (udt t Y X v) <+: sub a (lai (nC a) Y X) t := by
                  rw [← hq2]
                  show _ <+: M0 ++ (sub a (lai (nC a) (nxY (nC a) Y X) (nxX (nC a) X)) (udt t Y X v) ++ _)
                  rw [← List.append_assoc]
                  exact List.prefix_append _ _
                refine ih (nxY (nC a) Y X) (nxX (nC a) X) (udt t Y X v) (L ++ M0) _ _ (by omega) eNY eNX eNZ (hP.next hW hY2 hX okv) ?_ j2 ?_ ?_ ?_
                · refine ⟨fun y x q => ?_, fun y q => ?_, fun x q => ?_⟩
                  · rw [setI_ne _ _ _ (by decide), setI_ne _ _ _ (by decide), setI_at]
                    have q2 := (lai_next hX).mp q
                    by_cases c : y = Y ∧ x = X
                    · rw [c.1, c.2, if_pos ⟨rfl, rfl⟩, udt_s]
                    · rw [udt_n _ _ c]
                      have q3 : lai (nC a) Y X y x = true := by
                        rcases q2 with z | z
                        · exact z
                        · exact absurd z c
                      rw [if_neg (fun z => c (idx_inj (lai_iff.mp q3).1 hX z.2))]
                      exact hG1.1 y x q3
                  · rw [setI_ne _ _ _ (by decide), setI_at]
                    by_cases c : y = Y
                    · rw [if_pos ⟨rfl, c⟩, c, hrl, Nat.sub_sub]
                    · rw [if_neg (fun z => c z.2), rsum_updn c, setI_ne _ _ _ (by decide)]
                      exact hG1.2.1 y q
                  · rw [setI_at]
                    by_cases c : x = X
                    · rw [if_pos ⟨rfl, c⟩, c, hcl, Nat.sub_sub]
                    · rw [if_neg (fun z => c z.2), csum_updn c, setI_ne _ _ _ (by decide), setI_ne _ _ _ (by decide)]
                      exact hG1.2.2 x q
                · rw [setI_ne _ _ _ (by decide), setI_ne _ _ _ (by decide), setI_ne _ _ _ (by decide)]
                  exact co
                · rw [List.append_assoc]
                  exact List.IsPrefix.trans (List.prefix_append_right_inj L |>.mpr hpl) hpre
                · intro S2 M2 hG2 hp2 hj2 hq3
                  refine ⟨vp_in_nI (by omega) (by omega), vp_in_nI (by omega) (by omega), vp_in_nI (by omega) (by omega), vp_in_nI (by omega) (by omega), ?_⟩
                  rw [nI_1, hG2.2.1 Y hY2, hG2.2.2 X hX, hrl, hcl, nI_add, nI_add, show rsum (cel a) Y - (rsum t Y + v) + v = rsum (cel a) Y - rsum t Y by omega, show csum (cel a) X - (csum t X + v) + v = csum (cel a) X - csum t X by omega]
                  have f3 : Fr (fun k => k = 86 ∨ k = 87) S2 (setI (setI S2 86 Y (nI (rsum (cel a) Y - rsum t Y))) 87 X (nI (csum (cel a) X - csum t X))) := Fr.tr (Fr.setI (F := fun k => k = 86 ∨ k = 87) _ _ _ (Or.inl rfl)) (Fr.setI (F := fun k => k = 86 ∨ k = 87) _ _ _ (Or.inr rfl))
                  have j3 := J2 _ _ _ hj2 f3
                  rw [List.append_assoc] at j3
                  refine ihm (v + 1) (M0 ++ M2) _ most (by omega) hmo hno (fun w h1 h2 => hok w (by omega) h2) ?_ j3 ?_ ?_
                  · refine ⟨fun y x q => ?_, fun y q => ?_, fun x q => ?_⟩
                    · rw [setI_ne _ _ _ (by decide), setI_ne _ _ _ (by decide), hG2.1 y x ((lai_next hX).mpr (Or.inl q))]
                      rw [lai_iff] at q
                      rw [udt_n _ _ (by omega)]
                    · rw [setI_ne _ _ _ (by decide), setI_at]
                      by_cases c : y = Y
                      · rw [if_pos ⟨rfl, c⟩, c]
                      · rw [if_neg (fun z => c z.2), hG2.2.1 y q, rsum_updn c]
                    · rw [setI_at]
                      by_cases c : x = X
                      · rw [if_pos ⟨rfl, c⟩, c]
                      · rw [if_neg (fun z => c z.2), setI_ne _ _ _ (by decide), hG2.2.2 x q, csum_updn c]
                  · exact List.IsPrefix.trans (List.prefix_append_right_inj M0 |>.mpr hp2) hpl
                  · intro z
                    rw [setI_ne _ _ _ (by decide), setI_ne _ _ _ (by decide)] at z
                    rw [hq3 z, List.append_assoc]
                    exact hq2
              · rw [if_neg cp, if_pos rfl]
                rw [show (D + n) + 1 = D + 1 + n by omega]
                refine skip (List.eq_nil_iff_forall_not_mem.mpr fun p hp => ?_)
                have := (sub_ok hW hR hY2 hX hP hp).2
                omega
            have eR : nI (nR a) - 1 = nI (nR a - 1) := pk_sub (b := 1) (by omega)
            rw [hI1.2.2.2.2.1, eR]
            by_cases cY : Y + 1 = nR a
            · rw [if_pos (by rw [show Y = nR a - 1 by omega]), nI_clamp (show X < 2 ^ 31 by omega), g87]
              refine ⟨vp_in_nI (by omega) (by omega), ?_⟩
              by_cases cc : v = csum (cel a) X - csum t X
              · rw [if_pos (by rw [cc])]
                exact step (fun _ => by omega)
              · rw [if_neg (by rw [nI_eq (by omega) (by omega)]; exact cc)]
                refine eX12_goes_166 hρ (fun k hk => hF k (by simp at hk; rcases hk with h | h | h <;> simp [h])) ?_
                rw [if_neg (by decide)]
                refine skip (List.eq_nil_iff_forall_not_mem.mpr fun p hp => ?_)
                have := (sub_ok hW hR hY2 hX hP hp).1.2.2.2.2 cY
                omega
            · rw [if_neg (by rw [nI_eq (by omega) (by omega)]; omega)]
              exact step (fun z => absurd z cY)
          · rw [if_neg co]
            exact hQ S1 M0 hG1 hp1 hJ1 (fun z => absurd z co)
    -- the entry
    rw [show D + 1 + (n + 1) = D + 1 + n + 1 by omega]
    refine eX12_goes hρ (fun k hk => hF k (by simp at hk; simp [hk])) (sM_many hρ hI ?_)
    rw [if_neg (by rw [nI_eq (by omega) (by omega)]; omega), hI.2.2.2.2.2.1]
    have hC0 : ¬ nI (nC a) = (0 : Int32) := by
      intro z
      have := (nI_eq (b := 0) (show nC a < 2 ^ 31 by omega) (by omega)).mp z
      omega
    refine ⟨hC0, hC0, ?_⟩
    have ed : nI (Y * nC a + X) / nI (nC a) = nI Y := by
      rw [pk_div (by omega) (by omega) (by omega), Nat.mul_comm, Nat.mul_add_div (by omega), Nat.div_eq_of_lt hX, Nat.add_zero]
    have em : nI (Y * nC a + X) - nI (Y * nC a + X) / nI (nC a) * nI (nC a) = nI X := by
      rw [pk_rem (by omega) (by omega) (by omega), Nat.mul_comm, Nat.mul_add_mod, Nat.mod_eq_of_lt hX]
    rw [em, ed, hI.2.2.2.2.2.2.1]
    refine sM_has hρ (by omega) (by omega) ?_
    rw [hM_bit hY2 hX, nI_clamp (show Y < 2 ^ 31 by omega), nI_clamp (show X < 2 ^ 31 by omega), hG.2.1 Y hY2, hG.2.2 X hX]
    have eR : nI (nR a) - 1 = nI (nR a - 1) := pk_sub (b := 1) (by omega)
    have eC : nI (nC a) - 1 = nI (nC a - 1) := pk_sub (b := 1) (by omega)
    have start : ∀ most, most < 16 → (∀ w, most < w → ¬ okV a Y X t w) → (∀ w, w ≤ most → (hol a Y X = true → w = 0) ∧ rsum t Y + w ≤ rsum (cel a) Y ∧ csum t X + w ≤ csum (cel a) X) → AW g ρ (QV Q) (D + 1 + n + 1) mX12_goes 73 [(0, .ref 80), (1, .int (nI (Y * nC a + X))), (2, .int (nI Y)), (3, .int (nI X))] [.int (nI most)] ρ S := by
      intro most hmo hno hok
      have enter : ∀ low, low ≤ 20 → (∀ w, w < low → ¬ okV a Y X t w) → (∀ w, low ≤ w → w ≤ most → (X + 1 = nC a → rsum t Y + w = rsum (cel a) Y)) → AW g ρ (QV Q) (D + 1 + n + 1) mX12_goes 124 [(0, .ref 80), (1, .int (nI (Y * nC a + X))), (2, .int (nI Y)), (3, .int (nI X)), (4, .int (nI most)), (6, .int (nI low))] [] ρ S := by
        intro low hlow hb hx
        by_cases cl : low ≤ 16
        · refine loop (16 - low) low [] S most (by omega) hmo hno (fun w h1 h2 => ?_) hG (by rw [List.append_nil]; exact hJL) (List.nil_prefix) (fun _ => ?_)
          · obtain ⟨q1, q2, q3⟩ := hok w h2
            exact ⟨q1, q2, q3, hx w h1 h2⟩
          · rw [List.nil_append, hsplit]
            have z := upF_skip (f := fun v => sub a (lai (nC a) (nxY (nC a) Y X) (nxX (nC a) X)) (udt t Y X v)) low (16 - low) 0 (fun w _ h2 => List.eq_nil_iff_forall_not_mem.mpr fun p hp => hb w (by omega) (sub_ok hW hR hY2 hX hP hp).1)
            rw [show low + (16 - low) = 16 by omega, Nat.zero_add] at z
            exact z.symm
        · refine eX12_goes_124 hρ ?_
          rw [if_pos (nI_lt (by omega) (by omega))]
          refine hQ S [] hG (List.nil_prefix) (by rw [List.append_nil]; exact hJL) (fun _ => ?_)
          rw [hsplit]
          refine (upF_nil 16 0 (fun w hw => List.eq_nil_iff_forall_not_mem.mpr fun p hp => ?_)).symm
          have okw := (sub_ok hW hR hY2 hX hP hp).1
          by_cases c : w < low
          · exact hb w c okw
          · exact hno w (by omega) okw
      refine eX12_goes_73 hρ ?_
      rw [hI.2.2.2.2.2.1, eC, hI.2.2.2.2.1, eR, nI_clamp (show Y < 2 ^ 31 by omega), nI_clamp (show X < 2 ^ 31 by omega), hG.2.1 Y hY2, hG.2.2 X hX]
      by_cases cX : X + 1 = nC a
      · rw [if_pos (by rw [show X = nC a - 1 by omega])]
        refine ⟨vp_in_nI (by omega) (by omega), ?_⟩
        refine enter _ (by omega) (fun w hw ok => ?_) (fun w h1 h2 _ => ?_)
        · have := ok.2.2.2.1 cX
          omega
        · have := (hok w h2).2.1
          omega
      · rw [if_neg (by rw [nI_eq (by omega) (by omega)]; omega)]
        by_cases cY : Y + 1 = nR a
        · rw [if_pos (by rw [show Y = nR a - 1 by omega])]
          refine ⟨vp_in_nI (by omega) (by omega), ?_⟩
          refine enter _ (by omega) (fun w hw ok => ?_) (fun w h1 h2 z => absurd z cX)
          have := ok.2.2.2.2 cY
          omega
        · rw [if_neg (by rw [nI_eq (by omega) (by omega)]; omega)]
          exact enter 0 (by omega) (fun w hw => absurd hw (by omega)) (fun w h1 h2 z => absurd z cX)
    have t9' := t9 Y X
    cases ch : hol a Y X with
    | true =>
      rw [if_neg (by decide)]
      refine start 0 (by omega) (fun w hw ok => ?_) (fun w hw => ?_)
      · have := ok.1 ch
        omega
      · rw [show w = 0 by omega]
        exact ⟨fun _ => rfl, by omega, by omega⟩
    | false =>
      rw [if_pos (show (if false = true then (1 : Int32) else 0) = 0 from rfl)]
      refine ⟨vp_in_nI (by omega) (by omega), vp_in_nI (by omega) (by omega), ?_⟩
      have emin : (if nI (csum (cel a) X - csum t X) < nI (rsum (cel a) Y - rsum t Y) then nI (csum (cel a) X - csum t X) else nI (rsum (cel a) Y - rsum t Y)) = nI (min (csum (cel a) X - csum t X) (rsum (cel a) Y - rsum t Y)) := by
        by_cases c : csum (cel a) X - csum t X < rsum (cel a) Y - rsum t Y
        · rw [if_pos (nI_lt c (by omega)), Nat.min_eq_left (by omega)]
        · rw [if_neg (by rw [nI_ltI (by omega) (by omega)]; exact c), Nat.min_eq_right (by omega)]
      rw [emin]
      refine start _ (by omega) (fun w hw ok => ?_) (fun w hw => ?_)
      · have := ok.2.1
        have := ok.2.2.1
        omega
      · exact ⟨fun z => by rw [ch] at z; exact absurd z (by decide), by omega, by omega⟩
end G
