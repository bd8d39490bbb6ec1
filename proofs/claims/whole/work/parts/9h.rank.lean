-- RANKS AND CELLS
theorem tail_ro (p : Nat) {y : Nat} (hy : y < 4) : p % 65536 ^ (4 - y) / 65536 ^ (3 - y) = ro p y ∧ p % 65536 ^ (4 - y) % 65536 ^ (3 - y) = p % 65536 ^ (3 - y) := by
  have e : 65536 ^ (4 - y) = 65536 ^ (3 - y) * 65536 := by rw [← Nat.pow_succ]; congr 1; omega
  rw [e]
  refine ⟨Nat.mod_mul_right_div_self _ _ _, ?_⟩
  exact Nat.mod_mod_of_dvd _ (Nat.dvd_mul_right _ _)
theorem lt_el {m n : Nat} {C : Prop} (h1 : m < n → C) (h2 : n ≤ m → C) : C := (Nat.lt_or_ge m n).elim h1 h2
section RKs
variable {g : GX} {d : Nat} {ρ : Rs} {S : St} {a b : AS} {V : Nat → List Nat}
theorem sC_lineOf {Q : Int32 → St → Prop} (hρ : Ok ρ) {p y : Nat} (hp : p < 2 ^ 64) (hy : y < 4) (h : Q (nI (ro p y)) S) : CALLi g (d + 4) mX3_lineOf [.long (lN p), .int (nI y)] ρ ρ S Q := by
  refine eX3_lineOf hρ ?_
  refine sC_shift (x := 3) hρ hy (by omega) ?_
  rw [wb_shr hp (by omega), lN_i]
  show Q (nI (p / 2 ^ (4 * (15 - 4 * y - 3))) &&& nI (2 ^ 16 - 1)) S
  rw [fa_mask, show 4 * (15 - 4 * y - 3) = 16 * (3 - y) by omega, Nat.pow_mul]
  exact h
theorem sC_linkBy {Q : Int32 → St → Prop} (hρ : Ok ρ) (hW : WF a) (hR : nR a ≠ 0) (hD : DG a V S) {j u l : Nat} (hj : j < nR a) {A B P R : List Nat} (e : V j = A ++ u :: B) (el : lnk a j u = P ++ l :: R) (h : Q (nI (lof a V j + LC a j A + P.length)) S) : CALLi g (d + 3) mX1_linkBy [.ref 31, .int (nI (off V j + A.length)), .int (nI l)] ρ ρ S Q := by
  obtain ⟨cN, cL⟩ := hD.cap hW hR
  have hcapF := FA_cap hW hR
  obtain ⟨f1, f2⟩ := hD.first hj e
  have hlk := DG.lk_lt (a := a) hj e
  have hnl := DG.node_lt (a := a) (show j < nR a + 1 by omega) e
  have hll := (LL_dg (lnk_mem.mp (show l ∈ lnk a j u by rw [el]; simp)).1).1
  refine eX1_linkBy hρ ?_
  rw [nI_1 (off V j + A.length), nI_clamp (show off V j + A.length + 1 < 2 ^ 31 by omega), nI_clamp (show off V j + A.length < 2 ^ 31 by omega), f1, f2]
  refine ⟨vp_in_nI (by omega) (by omega), nI_nlt (b := 0) (by omega) (by omega), nI_nlt (a := 4800) (by omega) (by omega), vp_in_nI (by omega) (by omega), nI_nlt (b := 0) (by omega) (by omega), nI_nlt (a := 4800) (by omega) (by omega), ?_⟩
  have key : ∀ P2 P1 : List Nat, P = P1 ++ P2 → AW g ρ (QI Q) (d + 3) mX1_linkBy 15 [(0, .ref 31), (2, .int (nI l)), (3, .int (nI (lof a V j + LC a j A + (lnk a j u).length))), (4, .int (nI (lof a V j + LC a j A + P1.length)))] [] ρ S := by
    intro P2
    induction P2 with
    | nil =>
      intro P1 eP
      rw [List.append_nil] at eP
      subst eP
      have hq : P.length < (lnk a j u).length := by rw [el, List.length_append, List.length_cons]; omega
      have hgl : (lnk a j u).getD P.length 0 = l := by rw [el]; exact getD_mid
      obtain ⟨k, A', B', l1, l2, l3, l4, l5⟩ := hD.link hj e hq
      rw [hgl] at l3
      refine eX1_linkBy_15 hρ ?_
      rw [if_neg (nI_ge (by omega) (by omega)), nI_clamp (show lof a V j + LC a j A + P.length < 2 ^ 31 by omega), l1, nI_clamp (show k < 2 ^ 31 by omega), l3.1, if_pos rfl]
      exact ⟨vp_in_nI (by omega) (by omega), vp_in_nI (by omega) (by omega), h⟩
    | cons m P2 ih =>
      intro P1 eP
      have hm : m ∈ lnk a j u := by rw [el, eP]; simp
      have hml := (LL_dg (lnk_mem.mp hm).1).1
      have hlt : m < l := by
        have hs := lnk_sorted a j u
        rw [el, eP, List.append_assoc, List.pairwise_append, List.cons_append, List.pairwise_cons] at hs
        exact hs.2.1.1 l (by simp)
      have hq : P1.length < (lnk a j u).length := by rw [el, eP, List.length_append, List.length_append, List.length_cons]; omega
      have hgl : (lnk a j u).getD P1.length 0 = m := by rw [el, eP, List.append_assoc]; exact getD_mid
      obtain ⟨k, A', B', l1, l2, l3, l4, l5⟩ := hD.link hj e hq
      rw [hgl] at l3
      refine eX1_linkBy_15 hρ ?_
      rw [if_neg (nI_ge (by omega) (by omega)), nI_clamp (show lof a V j + LC a j A + P1.length < 2 ^ 31 by omega), l1, nI_clamp (show k < 2 ^ 31 by omega), l3.1, if_neg (by rw [nI_eq (by omega) (by omega)]; omega), nI_1]
      refine ⟨vp_in_nI (by omega) (by omega), vp_in_nI (by omega) (by omega), ?_⟩
      have := ih (P1 ++ [m]) (by rw [eP, List.append_assoc]; rfl)
      rw [len1] at this
      exact this
  exact key P [] (List.nil_append _).symm
theorem mem_PT {a : AS} {n y u q : Nat} (hu : u < topU) (h : q ∈ PT a (n + 1) y u) : ∃ l P R, lnk a y u = P ++ l :: R ∧ q / 65536 ^ n = l ∧ q % 65536 ^ n ∈ PT a n (y + 1) (u - tk l) ∧ q = l * 65536 ^ n + q % 65536 ^ n := by
  have hB := Nat.pow_pos (n := n) (show 0 < 65536 by decide)
  rw [PT_s, List.mem_flatMap] at h
  obtain ⟨l, hl, hq⟩ := h
  obtain ⟨q', hq', rfl⟩ := List.mem_map.mp hq
  have hs := (fts_sub hu (lnk_mem.mp hl).2).2.1
  have hql := PT_lt hs hq'
  obtain ⟨P, R, e⟩ := List.append_of_mem hl
  refine ⟨l, P, R, e, ?_, ?_, ?_⟩
  · rw [Nat.mul_comm, Nat.mul_add_div hB, Nat.div_eq_of_lt hql, Nat.add_zero]
  · rw [Nat.mul_comm, Nat.mul_add_mod, Nat.mod_eq_of_lt hql]; exact hq'
  · rw [Nat.mul_comm l, Nat.mul_add_mod, Nat.mod_eq_of_lt hql]
theorem sC_rankOf {Q : Int64 → St → Prop} (hρ : Ok ρ) (hW : WF a) (hR : nR a ≠ 0) (hF : IFb a V S) {p : Nat} (hp : p ∈ KK a) (h : Q (lN (rkK a p)) S) : CALLl g (d + 5) mX1_rankOf [.ref 31, .long (lN p)] ρ ρ S Q := by
  have hle := hW.le
  obtain ⟨hD, hA, -⟩ := hF
  obtain ⟨cN, cL⟩ := hD.cap hW hR
  have hp64 : p < 2 ^ 64 := (KK_mem.mp hp).1
  refine eX1_rankOf hρ ?_
  have rows : ∀ n y bf u A B, n + y = nR a → V y = A ++ u :: B → p % 65536 ^ (4 - y) ∈ PT a (4 - y) y u → bf + ltc (p % 65536 ^ (4 - y)) (PT a (4 - y) y u) = rkK a p → AW g ρ (QJ Q) (d + 3 + 2) mX1_rankOf 8 [(0, .ref 31), (1, .long (lN p)), (3, .long (lN bf)), (5, .int (nI (off V y + A.length))), (6, .int (nI y))] [] ρ S := by
    intro n
    induction n with
    | zero =>
      intro y bf u A B hy e hm hb
      refine eX1_rankOf_8 hρ ?_
      rw [hD.1.1, if_pos (nI_le (by omega) (by omega))]
      rw [PT_end hW hR _ y u (by omega)] at hm hb
      rw [List.mem_singleton.mp hm, ltc_none (fun q hq => by rw [List.mem_singleton.mp hq]; omega), Nat.add_zero] at hb
      rw [hb]
      exact h
    | succ n ih =>
      intro y bf u A B hy e hm hb
      have hyR : y < nR a := by omega
      have hu := (hD.mem (show y ≤ nR a by omega) e).1
      rw [show 4 - y = (3 - y) + 1 by omega] at hm hb
      obtain ⟨l, P, R, el, el2, hq', eq⟩ := mem_PT hu hm
      have tr := tail_ro p (show y < 4 by omega)
      rw [show 4 - y = (3 - y) + 1 by omega] at tr
      rw [tr.1] at el2
      rw [tr.2] at hq' eq
      have hqb : p % 65536 ^ (3 - y) < 65536 ^ (3 - y) := Nat.mod_lt _ (Nat.pow_pos (by decide))
      rw [eq, ltc_PT hu el hqb] at hb
      have hlk := DG.lk_lt (a := a) hyR e
      have hnl := DG.node_lt (a := a) (show y < nR a + 1 by omega) e
      have hPl : P.length < (lnk a y u).length := by rw [el, List.length_append, List.length_cons]; omega
      refine eX1_rankOf_8 hρ ?_
      rw [hD.1.1, if_neg (nI_ge (by omega) (by omega))]
      refine sC_lineOf hρ hp64 (by omega) ?_
      rw [el2]
      refine sC_linkBy hρ hW hR hD hyR e el ?_
      obtain ⟨f1, f2⟩ := hD.first hyR e
      rw [if_neg (by
        intro z
        have z2 := congrArg Int32.toInt z
        rw [nI_toInt (by omega)] at z2
        have : (-1 : Int32).toInt = -1 := rfl
        omega), nI_clamp (show off V y + A.length < 2 ^ 31 by omega), f1]
      refine ⟨vp_in_nI (by omega) (by omega), nI_nlt (b := 0) (by omega) (by omega), nI_nlt (a := 4800) (by omega) (by omega), ?_⟩
      have loop : ∀ P2 P1 : List Nat, P = P1 ++ P2 → AW g ρ (QJ Q) (d + 3 + 2) mX1_rankOf 49 [(0, .ref 31), (1, .long (lN p)), (3, .long (lN (bf + sml (fun l' => GT a (fun _ _ => 1) (3 - y) (y + 1) (u - tk l')) P1))), (6, .int (nI y)), (7, .int (nI (lof a V y + LC a y A + P.length))), (8, .int (nI (lof a V y + LC a y A + P1.length)))] [] ρ S := by
        intro P2
        induction P2 with
        | nil =>
          intro P1 eP
          rw [List.append_nil] at eP
          subst eP
          have hgl : (lnk a y u).getD P.length 0 = l := by rw [el]; exact getD_mid
          obtain ⟨k, A', B', l1, l2, l3, l4, l5⟩ := hD.link hyR e hPl
          rw [hgl] at l5
          refine eX1_rankOf_49 hρ ?_
          rw [if_pos (nI_le (Nat.le_refl _) (by omega)), nI_clamp (show lof a V y + LC a y A + P.length < 2 ^ 31 by omega), l4, nI_1]
          refine ⟨vp_in_nI (by omega) (by omega), ih (y + 1) _ (u - tk l) A' B' (by omega) l5 ?_ ?_⟩
          · rw [show 4 - (y + 1) = 3 - y by omega]; exact hq'
          · rw [show 4 - (y + 1) = 3 - y by omega, Nat.add_assoc]; exact hb
        | cons m P2 ihP =>
          intro P1 eP
          have hlen : P.length = P1.length + (P2.length + 1) := by rw [eP, List.length_append, List.length_cons]
          have hgl : (lnk a y u).getD P1.length 0 = m := by rw [el, eP, List.append_assoc]; exact getD_mid
          obtain ⟨k, A', B', l1, l2, l3, l4, l5⟩ := hD.link hyR e (show P1.length < (lnk a y u).length by omega)
          rw [hgl] at l5
          have hto := DG.node_lt (a := a) (show y + 1 < nR a + 1 by omega) l5
          have ha := (hA (y + 1) A' _ B' (by omega) l5 (Nat.zero_le _)).1
          rw [show 4 - (y + 1) = 3 - y by omega] at ha
          refine eX1_rankOf_49 hρ ?_
          rw [if_neg (nI_ge (by omega) (by omega)), nI_clamp (show lof a V y + LC a y A + P1.length < 2 ^ 31 by omega), l4, nI_clamp (show off V (y + 1) + A'.length < 2 ^ 31 by omega), ha, lN_add, nI_1]
          refine ⟨vp_in_nI (by omega) (by omega), vp_in_nI (by omega) (by omega), ?_⟩
          have := ihP (P1 ++ [m]) (by rw [eP, List.append_assoc]; rfl)
          rw [len1, sml_app, sml_1, ← Nat.add_assoc bf] at this
          exact this
      exact loop P [] (List.nil_append _).symm
  have h0 : V 0 = [] ++ cU a :: [] := hD.1.2.2.2.1
  have hm : p % 65536 ^ (4 - 0) = p := Nat.mod_eq_of_lt hp64
  refine rows (nR a) 0 0 (cU a) [] [] (by omega) h0 ?_ ?_
  · rw [hm, ← KK_PT hW hR]; exact hp
  · rw [hm, Nat.zero_add, rkK_ltc hW hR]
theorem or_line {c l k : Nat} (hc : c % 2 ^ (k + 16) = 0) (hl : l < 65536) (hb : c + l * 2 ^ k < 2 ^ 64) (hk : k < 64) : lN c ||| (lN l <<< ((nI k).toInt64 &&& 63)) = lN (c + l * 2 ^ k) := by
  have hlt : l * 2 ^ k < 2 ^ (k + 16) := by
    rw [Nat.pow_add, Nat.mul_comm]
    exact Nat.mul_lt_mul_of_pos_left hl (Nat.two_pow_pos _)
  rw [wb_shl l hk, wb_or (by omega) (by omega)]
  congr 1
  have e : c = 2 ^ (k + 16) * (c / 2 ^ (k + 16)) := by
    have := Nat.div_add_mod c (2 ^ (k + 16))
    omega
  rw [e, ← Nat.two_pow_add_eq_or_of_lt hlt]
theorem sC_withLine {Q : Int64 → St → Prop} (hρ : Ok ρ) {c l y : Nat} (hy : y < 4) (hc : c % 65536 ^ (4 - y) = 0) (hl : l < 65536) (hb : c + l * 65536 ^ (3 - y) < 2 ^ 64) (h : Q (lN (c + l * 65536 ^ (3 - y))) S) : CALLl g (d + 4) mX3_withLine [.long (lN c), .int (nI y), .int (nI l)] ρ ρ S Q := by
  refine eX3_withLine hρ ?_
  refine sC_shift (x := 3) hρ hy (by omega) ?_
  have e1 : (65536 : Nat) ^ (3 - y) = 2 ^ (16 * (3 - y)) := by rw [Nat.pow_mul]
  have e2 : (65536 : Nat) ^ (4 - y) = 2 ^ (16 * (3 - y) + 16) := by rw [show 16 * (3 - y) + 16 = 16 * (4 - y) by omega, Nat.pow_mul]
  rw [e1] at hb h
  rw [e2] at hc
  rw [nI_l (by omega), show 4 * (15 - 4 * y - 3) = 16 * (3 - y) by omega, or_line hc hl hb (by omega)]
  exact h
theorem sC_cellsOf {Q : Int64 → St → Prop} (hρ : Ok ρ) (hW : WF a) (hR : nR a ≠ 0) (hF : IFb a V S) {m : Nat} (hm : m < (KK a).length) (h : Q (lN ((KK a).getD m 0)) S) : CALLl g (d + 5) mX1_cellsOf [.ref 31, .long (lN m)] ρ ρ S Q := by
  have hle := hW.le
  obtain ⟨hD, hA, -⟩ := hF
  obtain ⟨cN, cL⟩ := hD.cap hW hR
  have hcapF := FA_cap hW hR
  have hKl := KK_len2 hW hR
  refine eX1_cellsOf hρ ?_
  have rows : ∀ n y r c u A B, n + y = nR a → V y = A ++ u :: B → r < (PT a (4 - y) y u).length → r < 2 ^ 62 → c % 65536 ^ (4 - y) = 0 → c + (PT a (4 - y) y u).getD r 0 = (KK a).getD m 0 → c + 65536 ^ (4 - y) ≤ 2 ^ 64 → AW g ρ (QJ Q) (d + 3 + 2) mX1_cellsOf 11 [(0, .ref 31), (3, .long (lN c)), (5, .long (lN r)), (7, .int (nI (off V y + A.length))), (8, .int (nI y))] [] ρ S := by
    intro n
    induction n with
    | zero =>
      intro y r c u A B hy e hr hr2 hc hb hc2
      refine eX1_cellsOf_11 hρ ?_
      rw [hD.1.1, if_pos (nI_le (by omega) (by omega))]
      rw [PT_end hW hR _ y u (by omega)] at hr hb
      have hr : r < 1 := hr
      rw [show r = 0 by omega, show ([0] : List Nat).getD 0 0 = 0 from rfl, Nat.add_zero] at hb
      rw [hb]
      exact h
    | succ n ih =>
      intro y r c u A B hy e hr hr2 hc hb hc2
      have hyR : y < nR a := by omega
      have hu := (hD.mem (show y ≤ nR a by omega) e).1
      have hlk := DG.lk_lt (a := a) hyR e
      have hnl := DG.node_lt (a := a) (show y < nR a + 1 by omega) e
      obtain ⟨f1, f2⟩ := hD.first hyR e
      have e4 : 4 - y = (3 - y) + 1 := by omega
      rw [e4] at hb
      rw [PT_len hu, e4, GT_s] at hr
      have eG : sml (fun l => 1 * GT a (fun _ _ => 1) (3 - y) (y + 1) (u - tk l)) (lnk a y u) = sml (fun l => GT a (fun _ _ => 1) (3 - y) (y + 1) (u - tk l)) (lnk a y u) := sml_congr _ (fun l _ => Nat.one_mul _)
      rw [eG] at hr
      refine eX1_cellsOf_11 hρ ?_
      rw [hD.1.1, if_neg (nI_ge (by omega) (by omega)), nI_1 (off V y + A.length), nI_clamp (show off V y + A.length + 1 < 2 ^ 31 by omega), nI_clamp (show off V y + A.length < 2 ^ 31 by omega), f1, f2]
      refine ⟨vp_in_nI (by omega) (by omega), nI_nlt (b := 0) (by omega) (by omega), nI_nlt (a := 4800) (by omega) (by omega), vp_in_nI (by omega) (by omega), nI_nlt (b := 0) (by omega) (by omega), nI_nlt (a := 4800) (by omega) (by omega), ?_⟩
      have loop : ∀ (R P : List Nat) r', lnk a y u = P ++ R → r = sml (fun l => GT a (fun _ _ => 1) (3 - y) (y + 1) (u - tk l)) P + r' → AW g ρ (QJ Q) (d + 3 + 2) mX1_cellsOf 40 [(0, .ref 31), (3, .long (lN c)), (5, .long (lN r')), (8, .int (nI y)), (9, .int (nI (lof a V y + LC a y A + P.length))), (10, .int (nI (lof a V y + LC a y A + (lnk a y u).length) - 1))] [] ρ S := by
        intro R
        induction R with
        | nil =>
          intro P r' el er
          rw [List.append_nil] at el
          rw [el] at hr
          omega
        | cons l R ihR =>
          intro P r' el er
          have hPl : P.length < (lnk a y u).length := by rw [el, List.length_append, List.length_cons]; omega
          have hgl : (lnk a y u).getD P.length 0 = l := by rw [el]; exact getD_mid
          have hlm : l ∈ lnk a y u := by rw [el]; simp
          have hl16 := (LL_dg (lnk_mem.mp hlm).1).1
          have hs := (fts_sub hu (lnk_mem.mp hlm).2).2.1
          obtain ⟨k, A', B', l1, l2, l3, l4, l5⟩ := hD.link hyR e hPl
          rw [hgl] at l3 l5
          have hto := DG.node_lt (a := a) (show y + 1 < nR a + 1 by omega) l5
          have ha := (hA (y + 1) A' _ B' (by omega) l5 (Nat.zero_le _)).1
          rw [show 4 - (y + 1) = 3 - y by omega] at ha
          have hG := GT1_lt (a := a) (n := 3 - y) (y := y + 1) (by omega) hs
          have e1 : nI (lof a V y + LC a y A + (lnk a y u).length) - 1 = nI (lof a V y + LC a y A + (lnk a y u).length - 1) := pk_sub (b := 1) (by omega)
          have v9 : vp_in (nI (lof a V y + LC a y A + P.length)) 4800 := vp_in_nI (by omega) (by omega)
          have vk : vp_in (nI k) 320 := vp_in_nI (by omega) (by omega)
          have vt : vp_in (nI (off V (y + 1) + A'.length)) 480 := vp_in_nI (by omega) (by omega)
          -- this one
          have take : r' < GT a (fun _ _ => 1) (3 - y) (y + 1) (u - tk l) → AW g ρ (QJ Q) (d + 3 + 2) mX1_cellsOf 84 [(0, .ref 31), (3, .long (lN c)), (5, .long (lN r')), (8, .int (nI y)), (9, .int (nI (lof a V y + LC a y A + P.length)))] [] ρ S := by
            intro hr'
            have e5 := PT_at (n := 3 - y) hu el hr'
            rw [← er] at e5
            have eB : 65536 ^ (4 - y) = 65536 * 65536 ^ (3 - y) := by rw [e4, Nat.pow_succ, Nat.mul_comm]
            have h6 : (l + 1) * 65536 ^ (3 - y) ≤ 65536 * 65536 ^ (3 - y) := Nat.mul_le_mul_right _ hl16
            rw [Nat.succ_mul] at h6
            have hB1 := Nat.pow_pos (n := 3 - y) (show 0 < 65536 by decide)
            refine eX1_cellsOf_84 hρ ?_
            have l3' : S.1 34 k = nI l := l3.1
            rw [nI_clamp (show lof a V y + LC a y A + P.length < 2 ^ 31 by omega), l1, nI_clamp (show k < 2 ^ 31 by omega), l3']
            refine ⟨v9, vk, sC_withLine hρ (by omega) hc hl16 (by omega) ⟨v9, ?_⟩⟩
            rw [l4, nI_1]
            refine ih (y + 1) r' (c + l * 65536 ^ (3 - y)) (u - tk l) A' B' (by omega) l5 ?_ (by omega) ?_ ?_ ?_
            · rw [show 4 - (y + 1) = 3 - y by omega, PT_len hs]; exact hr'
            · rw [show 4 - (y + 1) = 3 - y by omega]
              rw [eB] at hc
              have hc3 : c % 65536 ^ (3 - y) = 0 := by
                have := Nat.mod_mul_left_mod c 65536 (65536 ^ (3 - y))
                rw [hc, Nat.zero_mod] at this
                exact this.symm
              rw [Nat.add_mul_mod_self_right, hc3]
            · rw [show 4 - (y + 1) = 3 - y by omega, Nat.add_assoc, ← e5]; exact hb
            · rw [show 4 - (y + 1) = 3 - y by omega]
              omega
          refine eX1_cellsOf_40 hρ ?_
          rw [e1]
          by_cases cR : R = []
          · have hlen : (lnk a y u).length = P.length + 1 := by rw [el, cR, List.length_append]; rfl
            rw [if_pos (nI_le (by omega) (by omega))]
            refine take ?_
            rw [el, cR, sml_app, sml_1] at hr
            omega
          · have hRl : 0 < R.length := List.length_pos_iff.mpr cR
            have hlen : (lnk a y u).length = P.length + (R.length + 1) := by rw [el, List.length_append, List.length_cons]
            rw [if_neg (nI_ge (by omega) (by omega)), nI_clamp (show lof a V y + LC a y A + P.length < 2 ^ 31 by omega), l4, nI_clamp (show off V (y + 1) + A'.length < 2 ^ 31 by omega), ha]
            refine ⟨v9, vt, ?_⟩
            by_cases cr : r' < GT a (fun _ _ => 1) (3 - y) (y + 1) (u - tk l)
            · rw [if_neg (Int64.not_le.mpr ((lNlt (by omega) (by omega)).mpr cr))]
              exact take cr
            · rw [if_pos (Int64.not_lt.mp (fun z => cr ((lNlt (by omega) (by omega)).mp z))), lN_sub (by omega), nI_1]
              have := ihR (P ++ [l]) (r' - GT a (fun _ _ => 1) (3 - y) (y + 1) (u - tk l)) (by rw [el, List.append_assoc]; rfl) (by rw [sml_app, sml_1]; omega)
              rw [len1, e1] at this
              exact this
      exact loop (lnk a y u) [] r (List.nil_append _).symm (by show r = 0 + r; omega)
  have h0 : V 0 = [] ++ cU a :: [] := hD.1.2.2.2.1
  refine rows (nR a) 0 m 0 (cU a) [] [] (by omega) h0 ?_ (by omega) (Nat.zero_mod _) ?_ (by decide)
  · rw [← KK_PT hW hR]; exact hm
  · rw [Nat.zero_add, ← KK_PT hW hR]
theorem sC_rank {Q : Int64 → St → Prop} (hρ : Ok ρ) (hW : WF b) (hI : IB b S) (hF : nR b ≠ 0 → WF a ∧ Smp a b ∧ IFb a V S) (h0 : nR b = 0 → Q (-2) S) (h1 : nR b ≠ 0 → Q (lN (rkK b (pack (cel b)))) S) : CALLl g (d + 6) mX11_rank [.ref 16] ρ ρ S Q := by
  refine eX11_rank hρ (sC_isTold hρ hW hI ?_)
  by_cases c : nR b = 0
  · rw [if_pos c, if_pos rfl]; exact h0 c
  · rw [if_neg c, if_neg (by decide)]
    obtain ⟨f1, f2, f3⟩ := hF c
    have hcT := (hW.told c).2.2.2.2.2.2.2.2.2.1
    have hp := (KK_of hW c hcT (Sam.rf _)).1
    rw [hI.2.2.2.2.2.2.2.2.2.2.2.1]
    have h2 := h1 c
    rw [rkK_smp f2] at h2
    rw [KK_smp f2] at hp
    exact sC_rankOf hρ f1 (by rw [← f2.1]; exact c) f3 hp h2
/-- the cell of the one at a place of a list -/
def ofV (L : List Nat) (m y x : Nat) : Int32 := if m < L.length then nI (unp (L.getD m 0) y x) else -2
theorem ofV_none {L : List Nat} {m : Nat} (h : L[m]? = none) (y x : Nat) : ofV L m y x = -2 := by
  rw [List.getElem?_eq_none_iff] at h
  exact if_neg (by omega)
theorem ofV_some {L : List Nat} {m p : Nat} (h : L[m]? = some p) (y x : Nat) : ofV L m y x = nI (unp p y x) := by
  obtain ⟨h1, h2⟩ := List.getElem?_eq_some_iff.mp h
  unfold ofV
  rw [if_pos h1, List.getD_eq_getElem?_getD, h]
  rfl
theorem ofV_1 {L : List Nat} {m : Nat} (h : m < L.length) (y x : Nat) : ofV L m y x = nI (unp (L.getD m 0) y x) := if_pos h
theorem ofV_0 {L : List Nat} {m : Nat} (h : L.length ≤ m) (y x : Nat) : ofV L m y x = -2 := if_neg (by omega)
theorem sM_of2 {Q : Int32 → St → Prop} (hρ : Ok ρ) (hF : ∀ k ∈ ([80, 85, 86, 87] : List Nat), gF g k) (hW : WF a) (hI : IM a S) {x1 : Int64} {x3 x4 : Int32} (h0 : ¬ (vp_in x3 (nR a) ∧ vp_in x4 (nC a) ∧ (0 : Int64) ≤ x1) → Q (-2) S) (h1 : ∀ m, m < 2 ^ 63 → x1 = lN m → vp_in x3 (nR a) → vp_in x4 (nC a) → ∀ S', IM a S' → Q (ofV (KK a) m x3.toNatClampNeg x4.toNatClampNeg) S') : CALLi g (d + 20) mX12_of [.ref 80, .long x1, .int x3, .int x4] ρ ρ S Q := by
  have hl := hW.le
  have e2 := mul44 hl.1 hl.2.1
  have hF1 : ∀ k ∈ ([80] : List Nat), gF g k := fun k hk => hF k (by simp at hk; simp [hk])
  refine eX12_of hρ hF1 ?_
  by_cases c : vp_in x3 (nR a) ∧ vp_in x4 (nC a)
  · have hR := vin_R c.1
    refine sM_isCell1 hρ hW hI c.1 c.2 ?_
    rw [if_neg (by decide)]
    by_cases cx : (0 : Int64) ≤ x1
    · rw [if_pos cx]
      obtain ⟨m, hm, em⟩ := lN_of cx
      have c1 := vin_cl c.1
      have c2 := vin_cl c.2
      have hk := h1 m hm em c.1 c.2
      refine sM_pick (m := m) hρ hF hW hR (hI.lng _ _ _) hm (by rw [setL_at, if_pos ⟨rfl, rfl⟩, em]) (fun S' q1 q2 q3 => ?_) (fun S' p q1 q2 q3 q4 => ?_)
      · rw [if_pos q3]
        have z := hk S' q1
        rw [ofV_none q2] at z
        exact z
      · rw [if_neg (by rw [q3]; decide), vin_eq c.1 (by omega), vin_eq c.2 (by omega)]
        have e1 := idx_lt c1 c2
        refine sM_place hρ q1 ⟨vp_in_nI (by omega) (by omega), ?_⟩
        rw [nI_clamp (by omega), q4 _ _ c1 c2]
        have z := hk S' q1
        rw [ofV_some q2] at z
        exact z
    · rw [if_neg cx]
      exact h0 (fun z => cx z.2.2)
  · refine sM_isCell0 hρ hW hI c ?_
    rw [if_pos rfl]
    exact h0 (fun z => c ⟨z.1, z.2.1⟩)
theorem sC_of0 {Q : Int32 → St → Prop} {L : List Nat} {m y x : Nat} {x1 : Int64} {x3 x4 : Int32} (hρ : Ok ρ) (hl : L.length ≤ 2 ^ 48) (hm : m < 2 ^ 63) (e1 : x1 = lN m) (e3 : x3 = nI y) (e4 : x4 = nI x) (hy : y < 4) (hx : x < 4) (hsz : ∀ {Q' : Int64 → St → Prop}, Q' (lN L.length) S → CALLl g (d + 5) mX1_size [.ref 31] ρ ρ S Q') (hcel : ∀ {Q' : Int64 → St → Prop}, m < L.length → Q' (lN (L.getD m 0)) S → CALLl g (d + 5) mX1_cellsOf [.ref 31, .long (lN m)] ρ ρ S Q') (hpk : m < L.length → pack (unp (L.getD m 0)) = L.getD m 0) (h : Q (ofV L m y x) S) : CALLl g (d + 5) mX1_size [.ref 31] ρ ρ S (fun v2 S2 => if x1 < v2 then CALLl g (d + 5) mX1_cellsOf [.ref 31, .long x1] ρ ρ S2 (fun v3 S3 => CALLi g (d + 5) mX3_shift [.int x3, .int x4] ρ ρ S3 (fun v4 S4 => CALLi g (d + 5) mX3_get [.long v3, .int v4] ρ ρ S4 (fun v5 S5 => Q v5 S5))) else Q (-2) S2) := by
  refine hsz ?_
  rw [e1, e3, e4]
  by_cases cm : m < L.length
  · rw [if_pos ((lNlt hm (by omega)).mpr cm)]
    refine hcel cm ?_
    rw [ofV_1 cm] at h
    refine sC_shift hρ hy hx ?_
    rw [← hpk cm]
    exact sC_get hρ (unp_lt _) hy hx h
  · rw [if_neg (fun z => cm ((lNlt hm (by omega)).mp z))]
    rw [ofV_0 (by omega)] at h
    exact h
theorem sC_of {Q : Int32 → St → Prop} (hρ : Ok ρ) (hW : WF b) (hI : IB b S) (hF : nR b ≠ 0 → WF a ∧ Smp a b ∧ IFb a V S) {x1 : Int64} {x3 x4 : Int32} (h0 : ¬ (vp_in x3 (nR b) ∧ vp_in x4 (nC b) ∧ (0 : Int64) ≤ x1) → Q (-2) S) (h1 : ∀ m, m < 2 ^ 63 → x1 = lN m → vp_in x3 (nR b) → vp_in x4 (nC b) → Q (ofV (KK b) m x3.toNatClampNeg x4.toNatClampNeg) S) : CALLi g (d + 6) mX11_of [.ref 16, .long x1, .int x3, .int x4] ρ ρ S Q := by
  have hl := hW.le
  refine eX11_of hρ ?_
  by_cases c : vp_in x3 (nR b) ∧ vp_in x4 (nC b)
  · have hR := vin_R c.1
    obtain ⟨f1, f2, f3⟩ := hF hR
    have hRa : nR a ≠ 0 := by rw [← f2.1]; exact hR
    refine sC_has1 hρ hW hI c.1 c.2 ?_
    rw [if_neg (by decide)]
    by_cases cx : (0 : Int64) ≤ x1
    · obtain ⟨m, hm, em⟩ := lN_of cx
      have h2 := h1 m hm em c.1 c.2
      rw [KK_smp f2] at h2
      have c1 := vin_cl c.1
      have c2 := vin_cl c.2
      rw [if_neg (fun z => by rw [fa_lt64] at z; rw [fa_le64] at cx; omega)]
      exact sC_of0 hρ (KK_len2 f1 hRa) hm em (vin_eq c.1 (by omega)) (vin_eq c.2 (by omega)) (by omega) (by omega) (fun hq => sC_size hρ f1 hRa f3 hq) (fun hq1 hq2 => sC_cellsOf hρ f1 hRa f3 hq1 hq2) (fun cm => (KK_tab f1 hRa (KK_getD (List.prefix_refl (KK a)) cm)).2.2) h2
    · rw [if_pos (by rw [fa_lt64]; rw [fa_le64] at cx; omega)]
      exact h0 (fun z => cx z.2.2)
  · refine sC_has0 hρ hW hI c ?_
    rw [if_pos rfl]
    exact h0 (fun z => c ⟨z.1, z.2.1⟩)
end RKs
