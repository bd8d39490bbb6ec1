-- HOW MANY SWAPS THERE ARE
def mvC (t : Nat → Nat → Nat) (m : MVt) : Bool := decide (0 < t m.1 m.2.2.2.2.1) && (decide (0 < t m.2.1 m.2.2.2.2.2) && decide (0 < t m.2.2.1 m.2.2.2.1))
def canB (a : AS) (r s c d : Nat) : Bool := decide (0 < cel a r d) && (decide (0 < cel a s c) && (!hol a r c && !hol a s d))
theorem canB_iff {a : AS} {r s c d : Nat} : canB a r s c d = true ↔ canS a r s c d := by
  unfold canB canS
  simp
def indS (a : AS) (r s c d : Nat) : Nat := if c ≠ d ∧ canB a r s c d = true then 1 else 0
def swV (a : AS) : Nat := upN (fun r => upN (fun s => upN (fun c => upN (indS a r s c) (nC a) 0) (nC a) 0) (nR a - (r + 1)) (r + 1)) (nR a) 0
theorem flt_up {α : Type} (p : α → Bool) (f : Nat → List α) : ∀ n v, ((upF f n v).filter p).length = upN (fun v => ((f v).filter p).length) n v
  | 0, _ => rfl
  | n + 1, v => by
    show ((f v ++ upF f n (v + 1)).filter p).length = _
    rw [List.filter_append, List.length_append, flt_up p f n (v + 1)]
    rfl
theorem upN_cg {f f' : Nat → Nat} : ∀ n v, (∀ w, v ≤ w → w < v + n → f w = f' w) → upN f n v = upN f' n v
  | 0, _, _ => rfl
  | n + 1, v, h => by
    show f v + upN f n (v + 1) = f' v + upN f' n (v + 1)
    rw [h v (by omega) (by omega), upN_cg n (v + 1) (fun w h1 h2 => h w (by omega) (by omega))]
theorem SW_cnt {a : AS} (hW : WF a) (hR : nR a ≠ 0) : ((SWs a).filter (mvC (cel a))).length = swV a := by
  have hT := (hW.told hR).2.2.2.2.2.2.2.2.2.1
  unfold SWs swV
  rw [flt_up]
  refine upN_cg _ _ (fun r _ _ => ?_)
  rw [flt_up]
  refine upN_cg _ _ (fun s _ _ => ?_)
  unfold swL2
  rw [flt_up]
  refine upN_cg _ _ (fun c _ _ => ?_)
  rw [flt_up]
  refine upN_cg _ _ (fun e _ _ => ?_)
  unfold swL1 indS
  by_cases q : c ≠ e ∧ canB a r s c e = true
  · rw [if_pos q]
    have k := canB_iff.mp q.2
    have hz : ∀ y x, 0 < cel a y x → hol a y x = false := fun y x hp => by
      cases ch : hol a y x with
      | false => rfl
      | true => have := hT.2 y x ch; omega
    have hf : freS a r s c e = true := by
      unfold freS
      rw [k.2.2.1, k.2.2.2, hz r e k.1, hz s c k.2.1]
      rfl
    rw [if_pos ⟨q.1, hf⟩]
    have hm : mvC (cel a) (r, s, s, c, e, c) = true := by
      unfold mvC
      simp
      exact ⟨k.1, k.2.1⟩
    simp [hm]
  · rw [if_neg q]
    by_cases q2 : c ≠ e ∧ freS a r s c e = true
    · rw [if_pos q2]
      have hm : mvC (cel a) (r, s, s, c, e, c) = false := by
        cases hh : mvC (cel a) (r, s, s, c, e, c) with
        | false => rfl
        | true =>
          exfalso
          unfold mvC at hh
          simp at hh
          have hf := q2.2
          unfold freS at hf
          simp at hf
          exact q ⟨q2.1, canB_iff.mpr ⟨hh.1, hh.2, hf.1, hf.2.2.2⟩⟩
      simp [hm]
    · rw [if_neg q2]
      rfl
theorem SWs_mem {a : AS} {m : MVt} (h : m ∈ SWs a) : ∃ r s c e, m = (r, s, s, c, e, c) ∧ r < s ∧ s < nR a ∧ c < nC a ∧ e < nC a ∧ c ≠ e ∧ freS a r s c e = true := by
  unfold SWs at h
  obtain ⟨r, -, r2, h⟩ := (upF_mem _ _).mp h
  obtain ⟨s, s1, s2, h⟩ := (upF_mem _ _).mp h
  unfold swL2 at h
  obtain ⟨c, -, c2, h⟩ := (upF_mem _ _).mp h
  obtain ⟨e, -, e2, h⟩ := (upF_mem _ _).mp h
  unfold swL1 at h
  split at h
  · rename_i q
    rw [List.mem_singleton] at h
    exact ⟨r, s, c, e, h, by omega, by omega, by omega, by omega, q.1, q.2⟩
  · exact absurd h (by simp)
theorem SWs_smp {a b : AS} (h : Smp a b) : SWs b = SWs a := by
  unfold SWs swL2 swL1 freS
  rw [h.1, h.2.1, h.2.2.1]
section SP
variable {g : GX} {d : Nat} {ρ : Rs} {S : St} {a b : AS}
/-- a move on a packed table -/
theorem sC_can {Q : Int32 → St → Prop} (hρ : Ok ρ) {L : List MVt} (hM : MVI L S) {i : Nat} (hi : i < L.length) (hL : L.length ≤ 264) {t : Nat → Nat → Nat} (ht : ∀ y x, t y x < 16) (h4 : (L.getD i mv0).1 < 4 ∧ (L.getD i mv0).2.1 < 4 ∧ (L.getD i mv0).2.2.1 < 4 ∧ (L.getD i mv0).2.2.2.1 < 4 ∧ (L.getD i mv0).2.2.2.2.1 < 4 ∧ (L.getD i mv0).2.2.2.2.2 < 4) (h : Q (if mvC t (L.getD i mv0) = true then 1 else 0) S) : CALLi g (d + 4) mX5_can [.ref 26, .long (lN (pack t)), .int (nI i)] ρ ρ S Q := by
  obtain ⟨m1, m2, m3, m4⟩ := hM.2 i hi
  have vi : vp_in (nI i) 264 := vp_in_nI (by omega) (by omega)
  refine eX5_can hρ ?_
  rw [if_neg (show ¬ nI i < (0 : Int32) from nI_nlt (b := 0) (by omega) (by omega)), if_neg (show ¬ (264 : Int32) ≤ nI i from nI_ge (b := 264) (by omega) (by omega)), nI_clamp (show i < 2 ^ 31 by omega), m2]
  generalize L.getD i mv0 = m at *
  obtain ⟨r, s, u, c, e, f⟩ := m
  obtain ⟨h1, h2, h3, h5, h6, h7⟩ := h4
  have z : ∀ y x, (nI (t y x) ≤ (0 : Int32)) ↔ ¬ 0 < t y x := fun y x => by
    have e : (nI (t y x) ≤ (0 : Int32)) ↔ t y x ≤ 0 := nI_leI (b := 0) (by have := ht y x; omega) (by omega)
    rw [e]; omega
  refine ⟨vi, sC_get hρ ht h1 h6 ?_⟩
  unfold mvC at h
  dsimp only at h
  by_cases k1 : 0 < t r e
  · rw [if_neg (fun q => (z r e).mp q k1)]
    refine ⟨vi, ?_⟩
    rw [m3]
    refine sC_get hρ ht h2 h7 ?_
    by_cases k2 : 0 < t s f
    · rw [if_neg (fun q => (z s f).mp q k2)]
      refine ⟨vi, ?_⟩
      rw [m4]
      refine sC_get hρ ht h3 h5 ?_
      by_cases k3 : 0 < t u c
      · rw [if_neg (fun q => (z u c).mp q k3)]
        rw [if_pos (by simp [k1, k2, k3])] at h
        exact h
      · rw [if_pos ((z u c).mpr k3)]
        rw [if_neg (by simp [k3])] at h
        exact h
    · rw [if_pos ((z s f).mpr k2)]
      rw [if_neg (by simp [k2])] at h
      exact h
  · rw [if_pos ((z r e).mpr k1)]
    rw [if_neg (by simp [k1])] at h
    exact h
theorem MV_all (hW : WF a) : (SWs a ++ TNs a).length ≤ 264 := by
  have hle := hW.le
  have cap := (swtn (nR a) (by omega) (nC a) (by omega)).2
  have l1 := SWs_le a
  have l2 := TNs_le a
  rw [List.length_append]
  omega
theorem sw_4 (hW : WF a) {i : Nat} (hi : i < (SWs a).length) : ((SWs a ++ TNs a).getD i mv0).1 < 4 ∧ ((SWs a ++ TNs a).getD i mv0).2.1 < 4 ∧ ((SWs a ++ TNs a).getD i mv0).2.2.1 < 4 ∧ ((SWs a ++ TNs a).getD i mv0).2.2.2.1 < 4 ∧ ((SWs a ++ TNs a).getD i mv0).2.2.2.2.1 < 4 ∧ ((SWs a ++ TNs a).getD i mv0).2.2.2.2.2 < 4 := by
  have hle := hW.le
  rw [mv_l hi]
  have hm : (SWs a).getD i mv0 ∈ SWs a := by
    rw [List.getD_eq_getElem?_getD, List.getElem?_eq_getElem hi]
    exact List.getElem_mem hi
  obtain ⟨r, s, c, e, em, h1, h2, h3, h4, -, -⟩ := SWs_mem hm
  rw [em]
  exact ⟨by show r < 4; omega, by show s < 4; omega, by show s < 4; omega, by show c < 4; omega, by show e < 4; omega, by show c < 4; omega⟩
theorem sC_swapsOn {Q : Int32 → St → Prop} (hρ : Ok ρ) (hW : WF a) (hM : MVd a S) {t : Nat → Nat → Nat} (ht : ∀ y x, t y x < 16) (h : Q (nI ((SWs a).filter (mvC t)).length) S) : CALLi g (d + 5) mX5_swapsOn [.ref 26, .long (lN (pack t))] ρ ρ S Q := by
  have hl := MV_all hW
  have hl2 : (SWs a).length ≤ 264 := by rw [List.length_append] at hl; omega
  refine eX5_swapsOn hρ ?_
  have key : ∀ (R P : List MVt), SWs a = P ++ R → AW g ρ (QI Q) (d + 4 + 1) mX5_swapsOn 5 [(0, .ref 26), (1, .long (lN (pack t))), (3, .int (nI (P.filter (mvC t)).length)), (4, .int (nI P.length))] [] ρ S := by
    intro R
    induction R with
    | nil =>
      intro P e
      rw [List.append_nil] at e
      refine eX5_swapsOn_5 hρ ?_
      rw [hM.1, e, if_pos (nI_le (Nat.le_refl _) (by rw [← e]; omega)), ← e]
      exact h
    | cons m R ih =>
      intro P e
      have hi : P.length < (SWs a).length := by rw [e, List.length_append, List.length_cons]; omega
      have hg : (SWs a ++ TNs a).getD P.length mv0 = m := by
        rw [mv_l hi, e, List.getD_eq_getElem?_getD, List.getElem?_append_right (Nat.le_refl _), Nat.sub_self]
        rfl
      have h4 := sw_4 hW hi
      refine eX5_swapsOn_5 hρ ?_
      rw [hM.1, if_neg (nI_ge (by omega) (by omega))]
      refine sC_can hρ hM.2.2 (by rw [List.length_append]; omega) hl ht h4 ?_
      rw [hg]
      have e1 : (P ++ [m]).length = P.length + 1 := by rw [List.length_append]; rfl
      have := ih (P ++ [m]) (by rw [e, List.append_assoc]; rfl)
      rw [e1, List.filter_append, List.length_append] at this
      cases hm : mvC t m with
      | true =>
        rw [if_pos rfl, if_neg (by decide), nI_1, nI_1]
        have e2 : ([m].filter (mvC t)).length = 1 := by simp [hm]
        rw [e2] at this
        exact this
      | false =>
        rw [if_pos (show (if false = true then (1 : Int32) else 0) = 0 from rfl), nI_1]
        have e2 : ([m].filter (mvC t)).length = 0 := by simp [hm]
        rw [e2, Nat.add_zero] at this
        exact this
  exact key (SWs a) [] rfl
theorem sC_swaps {Q : Int32 → St → Prop} (hρ : Ok ρ) (hW : WF b) (hI : IB b S) (hF : nR b ≠ 0 → WF a ∧ Smp a b ∧ MVd a S) (h0 : nR b = 0 → Q (-2) S) (h1 : nR b ≠ 0 → Q (nI (swV b)) S) : CALLi g (d + 6) mX11_swaps [.ref 16] ρ ρ S Q := by
  refine eX11_swaps hρ (sC_isTold hρ hW hI ?_)
  by_cases c : nR b = 0
  · rw [if_pos c, if_pos rfl]; exact h0 c
  · rw [if_neg c, if_neg (by decide)]
    obtain ⟨f1, f2, f3⟩ := hF c
    rw [hI.2.2.2.2.2.2.2.2.2.2.2.1]
    refine sC_swapsOn hρ f1 f3 hW.lt16 ?_
    rw [← SWs_smp f2, SW_cnt hW c]
    exact h1 c
theorem sM_swaps {Q : Int32 → St → Prop} (hρ : Ok ρ) (hF : ∀ k ∈ ([85] : List Nat), gF g k) (hW : WF a) (hI : IM a S) (h0 : nR a = 0 → Q (-2) S) (h1 : nR a ≠ 0 → ∀ S', IM a S' → Q (nI (swV a)) S') : CALLi g (d + 3) mX12_swaps [.ref 80] ρ ρ S Q := by
  have hle := hW.le
  have e2 := mul44 hle.1 hle.2.1
  have e3 := hM_lt a hW
  refine eX12_swaps hρ (sM_is hρ hW hI ?_)
  by_cases c0 : nR a = 0
  · rw [if_pos c0, if_pos rfl]; exact h0 c0
  · rw [if_neg c0, if_neg (by decide)]
    have hC : 2 ≤ nC a := (hW.told c0).2.2.1
    refine sM_laysNow hρ hF hW hI (fun S1 s1 s2 s3 => ?_)
    have hI1 : IM a S1 := hI.of (by rw [s2 80 (by decide)]) (by rw [s2 80 (by decide)]) (by rw [s2 80 (by decide)]) (s2 81 (by decide)) (s2 83 (by decide)) (s2 84 (by decide))
    have hfin := h1 c0 S1 hI1
    have hsh : shp ρ 85 = .inr (0, 16) := by unfold shp; rw [if_pos (by decide)]; rfl
    have hfl : ∀ k, k < nR a * nC a → S1.1 85 (0 + k) = nI (flt (nC a) (cel a) k) := by
      intro k hk
      have k1 : k / nC a < nR a := Nat.div_lt_of_lt_mul (by rw [Nat.mul_comm]; exact hk)
      have k2 := Nat.mod_lt k (show 0 < nC a by omega)
      have k3 := Nat.div_add_mod k (nC a)
      have k4 := s3 (k / nC a) (k % nC a) k1 k2
      rw [Nat.mul_comm, k3] at k4
      rw [Nat.zero_add]
      exact k4
    have hC0 : ¬ nI (nC a) = (0 : Int32) := by
      intro z
      have := (nI_eq (b := 0) (show nC a < 2 ^ 31 by omega) (by omega)).mp z
      omega
    have eR : S1.1 81 0 = nI (nR a) := hI1.2.2.2.2.1
    have eC : S1.1 81 1 = nI (nC a) := hI1.2.2.2.2.2.1
    have rs : ∀ n r acc, n + r = nR a → acc + upN (fun r => upN (fun s => upN (fun c => upN (indS a r s c) (nC a) 0) (nC a) 0) (nR a - (r + 1)) (r + 1)) n r = swV a → AW g ρ (QI Q) (d + 2 + 1) mX12_swaps 18 [(0, .ref 80), (1, .int (nI acc)), (2, .int (nI r))] [] ρ S1 := by
      intro n
      induction n with
      | zero =>
        intro r acc hr ha
        refine eX12_swaps_18 hρ ?_
        rw [eR, if_pos (nI_le (by omega) (by omega))]
        have ha : acc + 0 = swV a := ha
        rw [show acc = swV a by omega]
        exact hfin
      | succ n ih =>
        intro r acc hr ha
        refine eX12_swaps_18 hρ ?_
        rw [eR, if_neg (nI_ge (by omega) (by omega)), nI_1]
        have ss : ∀ k s acc, k + s = nR a → r < s → acc + (upN (fun s => upN (fun c => upN (indS a r s c) (nC a) 0) (nC a) 0) k s + upN (fun r => upN (fun s => upN (fun c => upN (indS a r s c) (nC a) 0) (nC a) 0) (nR a - (r + 1)) (r + 1)) n (r + 1)) = swV a → AW g ρ (QI Q) (d + 2 + 1) mX12_swaps 32 [(0, .ref 80), (1, .int (nI acc)), (2, .int (nI r)), (3, .int (nI s))] [] ρ S1 := by
          intro k
          induction k with
          | zero =>
            intro s acc hs hrs ha
            refine eX12_swaps_32 hρ ?_
            rw [eR, if_pos (nI_le (by omega) (by omega)), nI_1]
            refine ih (r + 1) acc (by omega) ?_
            rw [← ha]
            show _ = acc + (0 + _)
            rw [Nat.zero_add]
          | succ k ihk =>
            intro s acc hs hrs ha
            refine eX12_swaps_32 hρ ?_
            rw [eR, if_neg (nI_ge (by omega) (by omega))]
            generalize hrest : upN (fun s => upN (fun c => upN (indS a r s c) (nC a) 0) (nC a) 0) k (s + 1) + upN (fun r => upN (fun s => upN (fun c => upN (indS a r s c) (nC a) 0) (nC a) 0) (nR a - (r + 1)) (r + 1)) n (r + 1) = rest
            have ha2 : acc + (upN (fun c => upN (indS a r s c) (nC a) 0) (nC a) 0 + rest) = swV a := by
              rw [← ha, ← hrest]
              show _ = acc + (upN (fun c => upN (indS a r s c) (nC a) 0) (nC a) 0 + _ + _)
              omega
            have ys : ∀ m y acc, m + y = nC a → acc + (upN (fun c => upN (indS a r s c) (nC a) 0) m y + rest) = swV a → AW g ρ (QI Q) (d + 2 + 1) mX12_swaps 45 [(0, .ref 80), (1, .int (nI acc)), (2, .int (nI r)), (3, .int (nI s)), (4, .int (nI (y * nC a)))] [] ρ S1 := by
              intro m
              induction m with
              | zero =>
                intro y acc hy ha
                refine eX12_swaps_45 hρ ?_
                have hcc : nC a * nC a ≤ 4 * 4 := Nat.mul_le_mul hle.2.1 hle.2.1
                rw [eC, pk_mul, show y = nC a by omega, if_pos (nI_le (Nat.le_refl _) (by omega)), nI_1]
                refine ihk (s + 1) acc (by omega) (by omega) ?_
                rw [hrest, ← ha]
                show _ = acc + (0 + rest)
                rw [Nat.zero_add]
              | succ m ihm =>
                intro y acc hy ha
                generalize hrest2 : upN (fun c => upN (indS a r s c) (nC a) 0) m (y + 1) + rest = rest2
                have ha3 : acc + (upN (indS a r s y) (nC a) 0 + rest2) = swV a := by
                  rw [← ha, ← hrest2]
                  show _ = acc + (upN (indS a r s y) (nC a) 0 + _ + _)
                  omega
                have xs : ∀ q x acc, q + x = nC a → acc + (upN (indS a r s y) q x + rest2) = swV a → AW g ρ (QI Q) (d + 2 + 1) mX12_swaps 45 [(0, .ref 80), (1, .int (nI acc)), (2, .int (nI r)), (3, .int (nI s)), (4, .int (nI (y * nC a + x)))] [] ρ S1 := by
                  intro q
                  induction q with
                  | zero =>
                    intro x acc hx ha
                    have := ihm (y + 1) acc (by omega) (by
                      rw [hrest2, ← ha]
                      show _ = acc + (0 + rest2)
                      rw [Nat.zero_add])
                    rw [Nat.succ_mul] at this
                    rw [show x = nC a by omega]
                    exact this
                  | succ q ihq =>
                    intro x acc hx ha
                    have hk := idx_lt (show y < nC a by omega) (show x < nC a by omega)
                    have hcc : nC a * nC a ≤ 4 * 4 := Nat.mul_le_mul hle.2.1 hle.2.1
                    have kd : nI (y * nC a + x) / nI (nC a) = nI y := by
                      rw [pk_div (by omega) (by omega) (by omega), Nat.mul_comm, Nat.mul_add_div (by omega), Nat.div_eq_of_lt (by omega), Nat.add_zero]
                    have km : nI (y * nC a + x) - nI (y * nC a + x) / nI (nC a) * nI (nC a) = nI x := by
                      rw [pk_rem (by omega) (by omega) (by omega), Nat.mul_comm, Nat.mul_add_mod, Nat.mod_eq_of_lt (by omega)]
                    have ha4 : acc + (indS a r s y x + upN (indS a r s y) q (x + 1) + rest2) = swV a := ha
                    have no : indS a r s y x = 0 → AW g ρ (QI Q) (d + 2 + 1) mX12_swaps 45 [(0, .ref 80), (1, .int (nI acc + 0)), (2, .int (nI r)), (3, .int (nI s)), (4, .int (nI (y * nC a + x) + 1))] [] ρ S1 := by
                      intro z
                      rw [Int32.add_zero, nI_1]
                      refine ihq (x + 1) acc (by omega) ?_
                      omega
                    refine eX12_swaps_45 hρ ?_
                    rw [eC, pk_mul, if_neg (nI_ge (by omega) (by omega)), km, kd]
                    refine ⟨hC0, hC0, ?_⟩
                    by_cases cxy : y = x
                    · rw [if_pos (by rw [cxy])]
                      exact no (by unfold indS; rw [if_neg (fun z => z.1 cxy)])
                    · rw [if_neg (by rw [nI_eq (by omega) (by omega)]; exact cxy)]
                      have hr2 : r < nR a := by omega
                      have hs2 : s < nR a := by omega
                      have hy2 : y < nC a := by omega
                      have hx2 : x < nC a := by omega
                      refine sM_two hρ hW hI1 hr2 hy2 hs2 hx2 (sM_two hρ hW hI1 hr2 hx2 hs2 hy2 ?_)
                      have i1 := idx_lt hr2 hy2
                      have i2 := idx_lt hs2 hx2
                      have i3 := idx_lt hr2 hx2
                      have i4 := idx_lt hs2 hy2
                      have o1 := or2_lt (show r * nC a + y < 16 by omega) (show s * nC a + x < 16 by omega)
                      have o2 := or2_lt (show r * nC a + x < 16 by omega) (show s * nC a + y < 16 by omega)
                      refine sM_canGo (n1 := 16) (b := 0) (H := hM a) (m := nR a * nC a) (f := flt (nC a) (cel a)) hρ (by decide) (okn hρ (by decide)) hsh (by omega) (by omega) (by omega) (by omega) (by omega) (by omega) (fun k hk => by have : flt (nC a) (cel a) k < 16 := hW.lt16 _ _; omega) (fun hq => sM_many hρ hI1 hq) hI1.2.2.2.2.2.2.1 hfl (fun ok => ?_) (fun k hk nok => ?_)
                      · rw [if_neg (by decide), nI_1, nI_1]
                        have z : indS a r s y x = 1 := by unfold indS; rw [if_pos ⟨cxy, canB_iff.mpr ((okG_can hW c0 hr2 hs2 hy2 hx2).mp ok)⟩]
                        refine ihq (x + 1) (acc + 1) (by omega) ?_
                        omega
                      · rw [if_pos rfl]
                        exact no (by unfold indS; rw [if_neg (fun z => nok ((okG_can hW c0 hr2 hs2 hy2 hx2).mpr (canB_iff.mp z.2) k hk))])
                exact xs (nC a) 0 acc (by omega) ha3
            have := ys (nC a) 0 acc (by omega) ha2
            rw [Nat.zero_mul] at this
            exact this
        exact ss (nR a - (r + 1)) (r + 1) acc (by omega) (by omega) ha
    exact rs (nR a) 0 0 (by omega) (by rw [Nat.zero_add]; rfl)
end SP
