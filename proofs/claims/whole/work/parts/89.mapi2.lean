section MB
variable {g : GX} {d : Nat} {ρ : Rs} {S : St} {a : AS}
theorem sM_in3 {Q : Int32 → St → Prop} (hρ : Ok ρ) {x : Int32} {n : Nat} {z : Int64} (hz : z = (nI n).toInt64) (hn : n < 2 ^ 30) (h1 : vp_in x (n + 1) → Q 1 S) (h0 : ¬ vp_in x (n + 1) → Q 0 S) : CALLi g d mX12_in [.long x.toInt64, .long 0, .long z] ρ ρ S Q := by
  refine sM_in hρ ?_
  rw [hz]
  by_cases c : vp_in x (n + 1)
  · rw [if_pos ((in64b (by omega)).mpr c)]; exact h1 c
  · rw [if_neg (fun q => c ((in64b (by omega)).mp q))]; exact h0 c
theorem sM_having {Q : Int64 → St → Prop} (hρ : Ok ρ) (hF : ∀ k ∈ ([80, 85, 86, 87, 88] : List Nat), gF g k) (hW : WF a) (hI : IM a S) {x1 x2 x3 : Int32} (h0 : ¬ (vp_in x1 (nR a) ∧ vp_in x2 (nC a) ∧ vp_in x3 21) → Q (-2) S) (h1 : vp_in x1 (nR a) → vp_in x2 (nC a) → vp_in x3 21 → ∀ S', IM a S' → Q (lN (seeK a (kOf a x1 x2) x3.toNatClampNeg)) S') : CALLl g (d + 22) mX12_having [.ref 80, .int x1, .int x2, .int x3] ρ ρ S Q := by
  refine eX12_having hρ ?_
  by_cases c : vp_in x1 (nR a) ∧ vp_in x2 (nC a)
  · have hR := vin_R c.1
    have hk := kOf_lt hW c.1 c.2
    refine sM_isCell1 hρ hW hI c.1 c.2 ?_
    rw [if_neg (by decide)]
    refine sM_in3 (n := 20) hρ rfl (by omega) (fun c3 => ?_) (fun c3 => ?_)
    · rw [if_neg (by decide)]
      have c4 := vin_cl c3
      refine sM_talliesAll hρ hF hW hR hI (fun S' q1 q2 q3 => sM_placeV hρ hW q1 c.1 c.2 ?_)
      have e3 : (21 : Int32) * nI (kOf a x1 x2) + x3 = nI (21 * kOf a x1 x2 + x3.toNatClampNeg) := by
        show nI 21 * nI (kOf a x1 x2) + _ = _
        rw [pk_mul, vin_eq c3 (by omega), nI_add, nI_clamp (by omega)]
      rw [e3, nI_clamp (by omega), q3 _ _ hk.1 (by omega)]
      exact ⟨vp_in_nI (by omega) (by omega), h1 c.1 c.2 c3 S' q1⟩
    · rw [if_pos rfl]
      exact h0 (fun z => c3 z.2.2)
  · refine sM_isCell0 hρ hW hI c ?_
    rw [if_pos rfl]
    exact h0 (fun z => c ⟨z.1, z.2.1⟩)
theorem sM_mean {Q : Int64 → St → Prop} (hρ : Ok ρ) (hF : ∀ k ∈ ([80, 85, 86, 87, 88] : List Nat), gF g k) (hW : WF a) (hI : IM a S) {x1 x2 x3 : Int32} (h0 : ¬ (vp_in x1 (nR a) ∧ vp_in x2 (nC a) ∧ vp_in x3 2) → Q (-2) S) (h1 : vp_in x1 (nR a) → vp_in x2 (nC a) → vp_in x3 2 → ∀ S', IM a S' → Q (lN (low (mnS (seeK a (kOf a x1 x2)) 21) (KK a).length x3.toNatClampNeg)) S') : CALLl g (d + 22) mX12_mean [.ref 80, .int x1, .int x2, .int x3] ρ ρ S Q := by
  refine eX12_mean hρ ?_
  by_cases c : vp_in x1 (nR a) ∧ vp_in x2 (nC a)
  · have hR := vin_R c.1
    have hk := kOf_lt hW c.1 c.2
    refine sM_isCell1 hρ hW hI c.1 c.2 ?_
    rw [if_neg (by decide)]
    refine sM_in3 (n := 1) hρ rfl (by omega) (fun c3 => ?_) (fun c3 => ?_)
    · rw [if_neg (by decide)]
      have c4 := vin_cl c3
      refine sM_talliesAll hρ hF hW hR hI (fun S' q1 q2 q3 => ?_)
      have hfin := h1 c.1 c.2 c3 S' q1
      have hsl := fun v => seeK_lt hW hR (kOf a x1 x2) v
      have q4 : ∀ v, v ≤ 20 → S'.2 88 (21 * kOf a x1 x2 + v) = lN (seeK a (kOf a x1 x2) v) := fun v hv => q3 _ v hk.1 hv
      generalize seeK a (kOf a x1 x2) = f at hfin hsl q4
      have key : ∀ n v, v + n = 21 → AW g ρ (QJ Q) (d + 21 + 1) mX12_mean 33 [(0, .ref 80), (1, .int x1), (2, .int x2), (3, .int x3), (4, .long (lN (mnS f v))), (6, .int (nI v))] [] ρ S' := by
        intro n
        induction n with
        | zero =>
          intro v hv
          refine eX12_mean_33 hρ ?_
          rw [if_pos (show (20 : Int32) < nI v from nI_lt (a := 20) (by omega) (by omega)), q2, vin_eq c3 (by omega), show v = 21 by omega]
          have b1 := mnS_le hsl 21 (by omega)
          have b2 := KK_len2 hW hR
          exact sM_part hρ (by omega) (by omega) (KK_nil hW hR) (by omega) hfin
        | succ n ih =>
          intro v hv
          refine eX12_mean_33 hρ ?_
          rw [if_neg (show ¬ (20 : Int32) < nI v from nI_nlt (a := 20) (by omega) (by omega))]
          refine sM_placeV hρ hW q1 c.1 c.2 ?_
          have e3 : (21 : Int32) * nI (kOf a x1 x2) + nI v = nI (21 * kOf a x1 x2 + v) := by
            show nI 21 * nI (kOf a x1 x2) + _ = _
            rw [pk_mul, nI_add]
          rw [e3, nI_clamp (by omega), q4 v (by omega), nI_l (show v < 2 ^ 31 by omega), lN_mul, lN_add, nI_1]
          exact ⟨vp_in_nI (by omega) (by omega), ih (v + 1) (by omega)⟩
      exact key 21 0 (by omega)
    · rw [if_pos rfl]
      exact h0 (fun z => c3 z.2.2)
  · refine sM_isCell0 hρ hW hI c ?_
    rw [if_pos rfl]
    exact h0 (fun z => c ⟨z.1, z.2.1⟩)
theorem sM_fixed {Q : Int32 → St → Prop} (hρ : Ok ρ) (hF : ∀ k ∈ ([80, 85, 86, 87, 88] : List Nat), gF g k) (hW : WF a) (hI : IM a S) (h0 : nR a = 0 → Q (-2) S) (h1 : nR a ≠ 0 → ∀ S', IM a S' → Q (nI (fixV a (nR a * nC a))) S') : CALLi g (d + 22) mX12_fixed [.ref 80] ρ ρ S Q := by
  have hl := hW.le
  have e2 := mul44 hl.1 hl.2.1
  have e3 := hM_lt a hW
  refine eX12_fixed hρ (sM_is hρ hW hI ?_)
  by_cases c : nR a = 0
  · rw [if_pos c, if_pos rfl]; exact h0 c
  · rw [if_neg c, if_neg (by decide)]
    have hC : 2 ≤ nC a := (hW.told c).2.2.1
    refine sM_talliesAll hρ hF hW c hI (fun S' q1 q2 q3 => ?_)
    have hfin := h1 c S' q1
    have key : ∀ n k, k + n = nR a * nC a → AW g ρ (QI Q) (d + 21 + 1) mX12_fixed 18 [(0, .ref 80), (1, .int (nI (fixV a k))), (2, .int (nI k))] [] ρ S' := by
      intro n
      induction n with
      | zero =>
        intro k hk
        refine eX12_fixed_18 hρ (sM_many hρ q1 ?_)
        rw [if_pos (nI_le (by omega) (by omega)), show k = nR a * nC a by omega]
        exact hfin
      | succ n ih =>
        intro k hk
        have ihk := ih (k + 1) (by omega)
        have k1 : k / nC a < nR a := Nat.div_lt_of_lt_mul (by rw [Nat.mul_comm]; omega)
        have k2 := Nat.mod_lt k (show 0 < nC a by omega)
        have k3 := Nat.div_add_mod k (nC a)
        have hb := hM_bit (a := a) k1 k2
        rw [Nat.mul_comm, k3] at hb
        have no : ¬ (hol a (k / nC a) (k % nC a) = false ∧ leaV a k = mosV a k) → AW g ρ (QI Q) (d + 21 + 1) mX12_fixed 18 [(0, .ref 80), (1, .int (nI (fixV a k) ||| 0)), (2, .int (nI k + 1))] [] ρ S' := by
          intro z
          have e : nI (fixV a k) ||| 0 = nI (fixV a (k + 1)) := by
            show nI (fixV a k) ||| nI 0 = nI (fixV a k ||| _)
            rw [fa_or, if_neg z]
          rw [e, nI_1]
          exact ihk
        refine eX12_fixed_18 hρ (sM_many hρ q1 ?_)
        rw [if_neg (nI_ge (by omega) (by omega)), q1.2.2.2.2.2.2.1]
        refine sM_has hρ (by omega) (by omega) ?_
        rw [hb]
        cases ch : hol a (k / nC a) (k % nC a) with
        | true =>
          rw [if_neg (by decide)]
          exact no (fun z => by rw [ch] at z; exact absurd z.1 (by decide))
        | false =>
          rw [if_pos (show (if false = true then (1 : Int32) else 0) = 0 from rfl)]
          have bl := fun v => seeK_lt hW c k v
          refine sM_bounds (b := false) hρ (by omega) (f := seeK a k) (fun v hv => by have := bl v; omega) (fun v hv => q3 k v (by omega) hv) (seeK_ex hW c _) ?_
          refine sM_bounds (b := true) hρ (by omega) (f := seeK a k) (fun v hv => by have := bl v; omega) (fun v hv => q3 k v (by omega) hv) (seeK_ex hW c _) ?_
          rw [if_neg (show ¬ (false = true) by decide), if_pos (show true = true from rfl)]
          have l1 : fnd (seeK a k) 20 0 ≤ 20 := by
            have : ∀ n v, fnd (seeK a k) n v ≤ v + n := by
              intro n
              induction n with
              | zero => intro v; exact Nat.le_refl _
              | succ n ih =>
                intro v
                unfold fnd
                split
                · have := ih (v + 1); omega
                · omega
            have := this 20 0
            omega
          have l2 : hfd (seeK a k) 20 ≤ 20 := by
            have : ∀ v, hfd (seeK a k) v ≤ v := by
              intro v
              induction v with
              | zero => exact Nat.le_refl _
              | succ v ih =>
                unfold hfd
                split
                · omega
                · omega
            exact this 20
          have eAB : leaV a k = fnd (seeK a k) 20 0 ∧ mosV a k = hfd (seeK a k) 20 := ⟨by unfold leaV; exact Eq.refl _, by unfold mosV; exact Eq.refl _⟩
          generalize fnd (seeK a k) 20 0 = A at l1 eAB ⊢
          generalize hfd (seeK a k) 20 = B at l2 eAB ⊢
          by_cases ce : A = B
          · rw [if_pos (by rw [ce])]
            have e : nI (fixV a k) ||| (1 <<< (nI k &&& 31)) = nI (fixV a (k + 1)) := by
              rw [shl1 (by omega), fa_or]
              congr 1
              show _ = fixV a k ||| _
              rw [if_pos ⟨ch, by rw [eAB.1, eAB.2]; exact ce⟩]
            rw [e, nI_1]
            exact ihk
          · rw [if_neg (by rw [nI_eq (by omega) (by omega)]; exact ce)]
            exact no (fun z => ce (by have := z.2; rw [eAB.1, eAB.2] at this; exact this))
    exact key (nR a * nC a) 0 (by omega)
theorem sM_weight {Q : Int64 → St → Prop} (hρ : Ok ρ) (hF : ∀ k ∈ ([85] : List Nat), gF g k) (hW : WF a) (hI : IM a S) (h0 : nR a = 0 → Q (-2) S) (h1 : nR a ≠ 0 → ∀ S', IM a S' → Q (lN (mea a 0 (cel a))) S') : CALLl g (d + 2) mX12_weight [.ref 80] ρ ρ S Q := by
  refine eX12_weight hρ (sM_is hρ hW hI ?_)
  by_cases c : nR a = 0
  · rw [if_pos c, if_pos rfl]; exact h0 c
  · rw [if_neg c, if_neg (by decide)]
    have hcT := (hW.told c).2.2.2.2.2.2.2.2.2.1
    refine sM_laysNow hρ hF hW hI (fun S1 s1 s2 s3 => ?_)
    have hI1 : IM a S1 := hI.of (by rw [s2 80 (by decide)]) (by rw [s2 80 (by decide)]) (by rw [s2 80 (by decide)]) (s2 81 (by decide)) (s2 83 (by decide)) (s2 84 (by decide))
    refine sM_weightOf hρ hW c hI1 hcT (Sam.rf _) s3 ?_
    rw [← mea_0 a (cel a) (nR a)]
    exact h1 c S1 hI1
theorem sM_weights {Q : Int64 → St → Prop} (hρ : Ok ρ) (hF : ∀ k ∈ ([80, 85, 86, 87] : List Nat), gF g k) (hW : WF a) (hI : IM a S) (h0 : nR a = 0 → Q (-2) S) (h1 : nR a ≠ 0 → ∀ S', IM a S' → Q (lN (sml (wK a) (KK a))) S') : CALLl g (d + 23) mX12_weights [.ref 80] ρ ρ S Q := by
  refine eX12_weights hρ (sM_is hρ hW hI ?_)
  by_cases c : nR a = 0
  · rw [if_pos c, if_pos rfl]; exact h0 c
  · rw [if_neg c, if_neg (by decide)]
    refine sM_weighsAll hρ hF hW c hI (fun S' i j q1 q2 q3 q4 q5 q6 => ?_)
    rw [q2]
    exact h1 c S' q1
theorem sM_heaviest {Q : Int64 → St → Prop} (hρ : Ok ρ) (hF : ∀ k ∈ ([80, 85, 86, 87] : List Nat), gF g k) (hW : WF a) (hI : IM a S) (h0 : nR a = 0 → Q (-2) S) (h1 : nR a ≠ 0 → ∀ S' i, IM a S' → FM (wK a) (KK a) i → Q (lN i) S') : CALLl g (d + 23) mX12_heaviest [.ref 80] ρ ρ S Q := by
  refine eX12_heaviest hρ (sM_is hρ hW hI ?_)
  by_cases c : nR a = 0
  · rw [if_pos c, if_pos rfl]; exact h0 c
  · rw [if_neg c, if_neg (by decide)]
    refine sM_weighsAll hρ hF hW c hI (fun S' i j q1 q2 q3 q4 q5 q6 => ?_)
    rw [q4]
    exact h1 c S' i q1 q3
theorem sM_lightest {Q : Int64 → St → Prop} (hρ : Ok ρ) (hF : ∀ k ∈ ([80, 85, 86, 87] : List Nat), gF g k) (hW : WF a) (hI : IM a S) (h0 : nR a = 0 → Q (-2) S) (h1 : nR a ≠ 0 → ∀ S' i, IM a S' → FN (wK a) (KK a) i → Q (lN i) S') : CALLl g (d + 23) mX12_lightest [.ref 80] ρ ρ S Q := by
  refine eX12_lightest hρ (sM_is hρ hW hI ?_)
  by_cases c : nR a = 0
  · rw [if_pos c, if_pos rfl]; exact h0 c
  · rw [if_neg c, if_neg (by decide)]
    refine sM_weighsAll hρ hF hW c hI (fun S' i j q1 q2 q3 q4 q5 q6 => ?_)
    rw [q6]
    exact h1 c S' j q1 q5
theorem sM_isStat {Q : Int32 → St → Prop} (hρ : Ok ρ) (hW : WF a) (hI : IM a S) {x1 : Int32} (h0 : ¬ (nR a ≠ 0 ∧ vp_in x1 4) → Q 0 S) (h1 : nR a ≠ 0 → vp_in x1 4 → Q 1 S) : CALLi g (d + 1) mX12_isStatistic [.ref 80, .int x1] ρ ρ S Q := by
  refine eX12_isStatistic hρ (sM_is hρ hW hI ?_)
  by_cases c : nR a = 0
  · rw [if_pos c, if_pos rfl]; exact h0 (fun z => z.1 c)
  · rw [if_neg c, if_neg (by decide)]
    refine sM_in3 (n := 3) hρ rfl (by omega) (fun c3 => ?_) (fun c3 => ?_)
    · rw [if_neg (by decide)]; exact h1 c c3
    · rw [if_pos rfl]; exact h0 (fun z => c3 z.2)
theorem sM_statistic {Q : Int64 → St → Prop} (hρ : Ok ρ) (hF : ∀ k ∈ ([85] : List Nat), gF g k) (hW : WF a) (hI : IM a S) {x1 : Int32} (h0 : ¬ (nR a ≠ 0 ∧ vp_in x1 4) → Q (-2) S) (h1 : nR a ≠ 0 → vp_in x1 4 → ∀ S', IM a S' → Q (lN (mea a x1.toNatClampNeg (cel a))) S') : CALLl g (d + 4) mX12_statistic [.ref 80, .int x1] ρ ρ S Q := by
  refine eX12_statistic hρ (sM_isStat hρ hW hI (fun c => ?_) (fun c c1 => ?_))
  · rw [if_pos rfl]; exact h0 c
  · rw [if_neg (by decide)]
    have hcT := (hW.told c).2.2.2.2.2.2.2.2.2.1
    refine sM_laysNow hρ hF hW hI (fun S1 s1 s2 s3 => ?_)
    have hI1 : IM a S1 := hI.of (by rw [s2 80 (by decide)]) (by rw [s2 80 (by decide)]) (by rw [s2 80 (by decide)]) (s2 81 (by decide)) (s2 83 (by decide)) (s2 84 (by decide))
    rw [vin_eq c1 (by omega)]
    refine sM_measureOf hρ hW c hI1 (vin_cl c1) hcT (Sam.rf _) s3 ?_
    exact h1 c c1 S1 hI1
theorem sM_extreme {Q : Int64 → St → Prop} (hρ : Ok ρ) (hF : ∀ k ∈ ([80, 85, 86, 87] : List Nat), gF g k) (hW : WF a) (hI : IM a S) {x1 : Int32} (h0 : ¬ (nR a ≠ 0 ∧ vp_in x1 4) → Q (-2) S) (h1 : nR a ≠ 0 → vp_in x1 4 → ∀ S', IM a S' → Q (lN ((KK a).filter (sat a x1.toNatClampNeg (mea a x1.toNatClampNeg (cel a)))).length) S') : CALLl g (d + 25) mX12_extreme [.ref 80, .int x1] ρ ρ S Q := by
  refine eX12_extreme hρ (sM_isStat hρ hW hI (fun c => ?_) (fun c c1 => ?_))
  · rw [if_pos rfl]; exact h0 c
  · rw [if_neg (by decide)]
    have h2 := h1 c c1
    rw [vin_eq c1 (by omega)]
    refine sM_measuresAll hρ hF hW c hI (vin_cl c1) (fun S' q1 q2 q3 q4 => ?_)
    rw [q3]
    exact h2 S' q1
theorem sM_share {Q : Int64 → St → Prop} (hρ : Ok ρ) (hF : ∀ k ∈ ([80, 85, 86, 87] : List Nat), gF g k) (hW : WF a) (hI : IM a S) {x1 x2 : Int32} (hb : nR a ≠ 0 → 0 < sml (wK a) (KK a) ∧ sml (wK a) (KK a) < 2 ^ 63 ∧ ∀ w b, sml (wK a) ((KK a).filter (sat a w b)) < 2 ^ 63) (h0 : ¬ (nR a ≠ 0 ∧ vp_in x1 4 ∧ vp_in x2 2) → Q (-2) S) (h1 : nR a ≠ 0 → vp_in x1 4 → vp_in x2 2 → ∀ S', IM a S' → Q (lN (low (sml (wK a) ((KK a).filter (sat a x1.toNatClampNeg (mea a x1.toNatClampNeg (cel a))))) (sml (wK a) (KK a)) x2.toNatClampNeg)) S') : CALLl g (d + 25) mX12_share [.ref 80, .int x1, .int x2] ρ ρ S Q := by
  refine eX12_share hρ (sM_isStat hρ hW hI (fun c => ?_) (fun c c1 => ?_))
  · rw [if_pos rfl]; exact h0 (fun z => c ⟨z.1, z.2.1⟩)
  · rw [if_neg (by decide)]
    refine sM_in3 (n := 1) hρ rfl (by omega) (fun c3 => ?_) (fun c3 => ?_)
    · rw [if_neg (by decide)]
      have h2 := h1 c c1 c3
      have c4 := vin_cl c3
      obtain ⟨b1, b2, b3⟩ := hb c
      rw [vin_eq c1 (by omega)]
      refine sM_measuresAll hρ hF hW c hI (vin_cl c1) (fun S' q1 q2 q3 q4 => ?_)
      rw [q4, q2, vin_eq c3 (by omega)]
      exact sM_part hρ (b3 _ _) b2 b1 (by omega) (h2 S' q1)
    · rw [if_pos rfl]
      exact h0 (fun z => c3 z.2.2)
/-- what a word draws -/
def dwV (a : AS) (w : Nat) : Int64 := if w < 1073741824 / (KK a).length * (KK a).length then lN (w % (KK a).length) else -1
theorem sM_drawn {Q : Int64 → St → Prop} (hρ : Ok ρ) (hF : ∀ k ∈ ([80, 85, 86, 87] : List Nat), gF g k) (hW : WF a) (hI : IM a S) {x1 : Int32} (h0 : ¬ (nR a ≠ 0 ∧ vp_in x1 1073741824) → Q (-2) S) (h1 : nR a ≠ 0 → vp_in x1 1073741824 → ∀ S', IM a S' → Q (dwV a x1.toNatClampNeg) S') : CALLl g (d + 21) mX12_drawn [.ref 80, .int x1] ρ ρ S Q := by
  refine eX12_drawn hρ (sM_is hρ hW hI ?_)
  by_cases c : nR a = 0
  · rw [if_pos c, if_pos rfl]; exact h0 (fun z => z.1 c)
  · rw [if_neg c, if_neg (by decide)]
    refine sM_in3 (n := 1073741823) hρ rfl (by omega) (fun c3 => ?_) (fun c3 => ?_)
    · rw [if_neg (by decide)]
      have c4 := vin_cl c3
      have h2 := h1 c c3
      have hl := KK_len2 hW c
      have hp := KK_nil hW c
      refine sM_tablesOf hρ hF hW c hI (fun S' q1 => ?_)
      have h3 := h2 S' q1
      unfold dwV at h3
      rw [vin_eq c3 (by omega)]
      rw [nI_l (by omega)]
      generalize (KK a).length = n at hl hp h3
      generalize x1.toNatClampNeg = w at c4 h3
      have e1 : (1073741824 : Int64) / lN n = lN (1073741824 / n) := lNdiv (a := 1073741824) (by omega) (by omega)
      have e2 : 1073741824 / n * n ≤ 1073741824 := Nat.div_mul_le_self _ _
      have hz : ¬ lN n = (0 : Int64) := fun z => by
        have := (lNeq (n := 0) (by omega) (by omega)).mp z
        omega
      rw [e1, lN_mul]
      refine ⟨hz, ?_⟩
      by_cases cw : w < 1073741824 / n * n
      · rw [if_pos cw] at h3
        rw [if_neg (fun z => by have := (lNle (by omega) (by omega)).mp z; omega), lNrem (by omega) (by omega)]
        exact ⟨hz, h3⟩
      · rw [if_neg cw] at h3
        rw [if_pos ((lNle (by omega) (by omega)).mpr (by omega))]
        exact h3
    · rw [if_pos rfl]
      exact h0 (fun z => c3 z.2)
theorem sM_evenly {Q : Int32 → St → Prop} (hρ : Ok ρ) (hF : ∀ k ∈ ([80, 85, 86, 87] : List Nat), gF g k) (hW : WF a) (hI : IM a S) (h0 : nR a = 0 → Q (-2) S) (h1 : nR a ≠ 0 → ∀ S', IM a S' → Q (nI (1073741824 / (KK a).length)) S') : CALLi g (d + 21) mX12_evenly [.ref 80] ρ ρ S Q := by
  refine eX12_evenly hρ (sM_is hρ hW hI ?_)
  by_cases c : nR a = 0
  · rw [if_pos c, if_pos rfl]; exact h0 c
  · rw [if_neg c, if_neg (by decide)]
    have hl := KK_len2 hW c
    have hp := KK_nil hW c
    refine sM_tablesOf hρ hF hW c hI (fun S' q1 => ?_)
    have h3 := h1 c S' q1
    generalize (KK a).length = n at hl hp h3
    have e1 : (1073741824 : Int64) / lN n = lN (1073741824 / n) := lNdiv (a := 1073741824) (by omega) (by omega)
    rw [e1, lN_i]
    exact ⟨fun z => by have := (lNeq (n := 0) (by omega) (by omega)).mp z; omega, h3⟩
end MB
