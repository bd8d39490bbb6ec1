-- HOW MANY LIE AS FAR OUT
def stq (w lim sum : Nat) (f : Nat → Nat) (q : Nat) : Bool := if w = 0 then decide (jn w sum (f q) ≤ lim) else decide (lim ≤ jn w sum (f q))
def cntG (a : AS) (w lim sum n y u : Nat) : Nat := ((PT a n y u).filter (stq w lim sum (tm a w n y))).length
def wsG (a : AS) (w lim sum n y u : Nat) : Nat := sml (prR rwH n y) ((PT a n y u).filter (stq w lim sum (tm a w n y)))
theorem prR_s {h : Nat → Nat → Nat} {n y l q : Nat} (hq : q < 65536 ^ n) : prR h (n + 1) y (l * 65536 ^ n + q) = h y l * prR h n (y + 1) q := by
  have hB := Nat.pow_pos (n := n) (show 0 < 65536 by decide)
  show h y ((l * 65536 ^ n + q) / 65536 ^ n) * prR h n (y + 1) ((l * 65536 ^ n + q) % 65536 ^ n) = _
  rw [Nat.mul_comm l, Nat.mul_add_div hB, Nat.div_eq_of_lt hq, Nat.add_zero, Nat.mul_add_mod, Nat.mod_eq_of_lt hq]
theorem blk_flt {a : AS} {w lim sum n y u l : Nat} (hs : u - tk l < topU) : (blkT a n y u l).filter (stq w lim sum (tm a w (n + 1) y)) = ((PT a n (y + 1) (u - tk l)).filter (stq w lim (jn w sum (mrow a w y (dg l))) (tm a w n (y + 1)))).map (fun q => l * 65536 ^ n + q) := by
  unfold blkT
  rw [List.filter_map]
  congr 1
  refine List.filter_congr (fun q hq => ?_)
  show stq w lim sum (tm a w (n + 1) y) (l * 65536 ^ n + q) = _
  unfold stq
  rw [tm_s (PT_lt hs hq), jn_as]
theorem blk_cnt {a : AS} {w lim sum n y u l : Nat} (hs : u - tk l < topU) : ((blkT a n y u l).filter (stq w lim sum (tm a w (n + 1) y))).length = cntG a w lim (jn w sum (mrow a w y (dg l))) n (y + 1) (u - tk l) ∧ sml (prR rwH (n + 1) y) ((blkT a n y u l).filter (stq w lim sum (tm a w (n + 1) y))) = rowW (dg l) * wsG a w lim (jn w sum (mrow a w y (dg l))) n (y + 1) (u - tk l) := by
  rw [blk_flt hs]
  refine ⟨?_, ?_⟩
  · rw [List.length_map]
    unfold cntG
    exact Eq.refl _
  · rw [sml_map]
    unfold wsG
    rw [← sml_mul]
    refine sml_congr _ (fun q hq => ?_)
    rw [prR_s (PT_lt hs (List.mem_filter.mp hq).1)]
    rfl
theorem all_G {a : AS} {w lim sum n y u : Nat} (hu : u < topU) (h : ∀ q, q ∈ PT a n y u → stq w lim sum (tm a w n y) q = true) : cntG a w lim sum n y u = GT a (fun _ _ => 1) n y u ∧ wsG a w lim sum n y u = GT a rwH n y u := by
  have e : (PT a n y u).filter (stq w lim sum (tm a w n y)) = PT a n y u := List.filter_eq_self.mpr h
  unfold cntG wsG
  rw [e]
  exact ⟨PT_len hu, PT_GT rwH n y u hu⟩
theorem no_G {a : AS} {w lim sum n y u : Nat} (h : ∀ q, q ∈ PT a n y u → stq w lim sum (tm a w n y) q = false) : cntG a w lim sum n y u = 0 ∧ wsG a w lim sum n y u = 0 := by
  have e : (PT a n y u).filter (stq w lim sum (tm a w n y)) = [] := List.filter_eq_nil_iff.mpr (fun q hq => by rw [h q hq]; decide)
  unfold cntG wsG
  rw [e]
  exact ⟨rfl, rfl⟩
section GA
variable {g : GX} {d : Nat} {ρ : Rs} {a : AS} {V : Nat → List Nat}
theorem sC_gtop {S : St} {Q : St → Prop} (hρ : Ok ρ) (hF : ∀ k ∈ ([54] : List Nat), gF g k) {w lim sum wg node y R lo hi : Nat} {L : List Nat} {f : Nat → Nat} (hw : w < 4) (hlim : lim < 2 ^ 63) (hnode : node < 480) (hy : y ≤ R) (hR4 : R ≤ 4) (hlo : LoP f L lo) (hhi : HiP f L hi) (q3 : S.2 (56 + w) node = lN lo) (q4 : S.2 (61 + w) node = lN hi) (hsb : ∀ q, q ∈ L → jn w sum (f q) < 2 ^ 63) (h67 : S.2 54 8 = lN lim) (hall : (∀ q, q ∈ L → stq w lim sum f q = true) → Q (setL (setL S 54 9 (S.2 54 9 + S.2 47 node)) 54 10 (S.2 54 10 + lN wg * S.2 48 node))) (hno : (∀ q, q ∈ L → stq w lim sum f q = false) → Q S) (hmix : y < R → CALLv g (d + 4) mX4_gatherBehind [.ref 54, .int (nI w), .int (nI node), .int (nI y), .long (lN sum), .long (lN wg)] ρ ρ S (fun S1 => Q S1)) (hend : ¬ y < R → lo = hi) : CALLv g (d + 5) mX4_gather [.ref 54, .int (nI w), .int (nI node), .int (nI y), .long (lN sum), .long (lN wg)] ρ ρ S Q := by
  have hjl : jn w sum lo < 2 ^ 63 := by
    obtain ⟨r, r1, r2⟩ := hlo.1
    rw [← r2]; exact hsb r r1
  have hjh : jn w sum hi < 2 ^ 63 := by
    obtain ⟨r, r1, r2⟩ := hhi.1
    rw [← r2]; exact hsb r r1
  have hb3 : ∀ v, jn w sum v < 2 ^ 63 → w = 3 → sum < 2 ^ 63 ∧ v < 2 ^ 63 := fun v hv e3 => by
    unfold jn at hv
    rw [e3, if_neg (by decide), if_pos rfl] at hv
    omega
  have hlh : lo ≤ hi := by
    obtain ⟨r, r1, r2⟩ := hlo.1
    have := hhi.2 r r1
    omega
  have hjm := jn_mono w sum hlh
  have vw : vp_in (nI w) 4 := vp_in_nI hw (by omega)
  have vn : vp_in (nI node) 480 := vp_in_nI (by omega) (by omega)
  -- what 143 does
  have fin1 : ∀ s0, (∀ q, q ∈ L → stq w lim sum f q = true) → AW g ρ (QV Q) (d + 4 + 1) mX4_gather 143 [(0, .ref 54), (1, .int (nI w)), (2, .int (nI node)), (3, .int (nI y)), (4, .long (lN sum)), (6, .long (lN wg)), (13, .int 1)] [.int s0] ρ S := by
    intro s0 hst
    refine eX4_gather_143 hρ hF ?_
    rw [if_neg (by decide), nI_clamp (show node < 2 ^ 31 by omega)]
    exact ⟨vn, vn, hall hst⟩
  have fin0 : (∀ q, q ∈ L → stq w lim sum f q = false) → AW g ρ (QV Q) (d + 4 + 1) mX4_gather 143 [(0, .ref 54), (1, .int (nI w)), (2, .int (nI node)), (3, .int (nI y)), (4, .long (lN sum)), (6, .long (lN wg)), (13, .int 0)] [.int 0] ρ S := by
    intro hst
    refine eX4_gather_143 hρ hF ?_
    rw [if_pos rfl, if_pos rfl]
    exact hno hst
  have finm : y < R → AW g ρ (QV Q) (d + 4 + 1) mX4_gather 143 [(0, .ref 54), (1, .int (nI w)), (2, .int (nI node)), (3, .int (nI y)), (4, .long (lN sum)), (6, .long (lN wg)), (13, .int 0)] [.int 1] ρ S := by
    intro hyR
    refine eX4_gather_143 hρ hF ?_
    rw [if_pos rfl, if_neg (by decide)]
    exact hmix hyR
  obtain ⟨sl, -, -⟩ := slot_in (w := nI w) (f := nI node) (c := 480) (n := 480) rfl (Nat.le_refl 480) vw vn
  refine eX4_gather hρ ?_
  rw [if_neg (show ¬ (4 : Int32) < nI y from nI_nlt (a := 4) (by omega) (by omega)), if_neg (show ¬ nI node < (0 : Int32) from nI_nlt (b := 0) (by omega) (by omega)), if_neg (show ¬ (480 : Int32) ≤ nI node from nI_ge (b := 480) (by omega) (by omega)), if_neg (vnn sl), if_pos (Int32.not_le.mp (show ¬ (1920 : Int32) ≤ _ from vge sl (by decide))), nI_clamp (show w < 2 ^ 31 by omega), nI_clamp (show node < 2 ^ 31 by omega), q3]
  refine ⟨vw, vn, sC_join hρ hw (hb3 lo hjl) ⟨vw, vn, ?_⟩⟩
  rw [q4]
  refine sC_join hρ hw (hb3 hi hjh) ?_
  by_cases cw : w = 0
  · have e0 : nI w = (0 : Int32) := by rw [cw]; rfl
    have tr : ∀ q, q ∈ L → jn w sum hi ≤ lim → stq w lim sum f q = true := fun q hq hl => by
      have := jn_mono w sum (hhi.2 q hq)
      unfold stq
      rw [if_pos cw]
      exact decide_eq_true (by omega)
    have fl : ∀ q, q ∈ L → lim < jn w sum lo → stq w lim sum f q = false := fun q hq hl => by
      have := jn_mono w sum (hlo.2 q hq)
      unfold stq
      rw [if_pos cw]
      exact decide_eq_false (by omega)
    rw [if_pos e0, h67]
    by_cases ca : lim < jn w sum hi
    · rw [if_pos ((lNlt hlim hjh).mpr ca)]
      refine eX4_gather_104 hρ ?_
      rw [if_pos e0, h67]
      by_cases cb : lim < jn w sum lo
      · rw [if_pos ((lNlt hlim hjl).mpr cb)]
        exact fin0 (fun q hq => fl q hq cb)
      · rw [if_neg (fun z => cb ((lNlt hlim hjl).mp z))]
        refine finm (Nat.not_le.mp fun z => ?_)
        have := hend (by omega)
        rw [this] at cb
        exact cb ca
    · rw [if_neg (fun z => ca ((lNlt hlim hjh).mp z))]
      refine eX4_gather_104 hρ ?_
      rw [if_pos e0, h67]
      by_cases cb : lim < jn w sum lo
      · omega
      · rw [if_neg (fun z => cb ((lNlt hlim hjl).mp z))]
        exact fin1 1 (fun q hq => tr q hq (by omega))
  · have e0 : ¬ nI w = (0 : Int32) := fun z => cw ((nI_eq (b := 0) (by omega) (by omega)).mp z)
    have tr : ∀ q, q ∈ L → lim ≤ jn w sum lo → stq w lim sum f q = true := fun q hq hl => by
      have := jn_mono w sum (hlo.2 q hq)
      unfold stq
      rw [if_neg cw]
      exact decide_eq_true (by omega)
    have fl : ∀ q, q ∈ L → jn w sum hi < lim → stq w lim sum f q = false := fun q hq hl => by
      have := jn_mono w sum (hhi.2 q hq)
      unfold stq
      rw [if_neg cw]
      exact decide_eq_false (by omega)
    rw [if_neg e0, h67]
    by_cases ca : jn w sum lo < lim
    · rw [if_pos ((lNlt hjl hlim).mpr ca)]
      refine eX4_gather_104 hρ ?_
      rw [if_neg e0, h67]
      by_cases cb : jn w sum hi < lim
      · rw [if_pos ((lNlt hjh hlim).mpr cb)]
        exact fin0 (fun q hq => fl q hq cb)
      · rw [if_neg (fun z => cb ((lNlt hjh hlim).mp z))]
        refine finm (Nat.not_le.mp fun z => ?_)
        have := hend (by omega)
        rw [this] at ca
        exact cb ca
    · rw [if_neg (fun z => ca ((lNlt hjl hlim).mp z))]
      refine eX4_gather_104 hρ ?_
      rw [if_neg e0, h67]
      by_cases cb : jn w sum hi < lim
      · omega
      · rw [if_neg (fun z => cb ((lNlt hjh hlim).mp z))]
        exact fin1 1 (fun q hq => tr q hq (by omega))
theorem add0 (x : Int64) : x + lN 0 = x := Int64.add_zero x
theorem sC_gather (hρ : Ok ρ) (hF : ∀ k ∈ ([54] : List Nat), gF g k) (hW : WF a) (hR : nR a ≠ 0) {w lim : Nat} (hw : w < 4) (hlim : lim < 2 ^ 63) : ∀ n y u A B sum wg S (Q : St → Prop), n + y = nR a → V y = A ++ u :: B → PT a (4 - y) y u ≠ [] → (∀ q, q ∈ PT a (4 - y) y u → jn w sum (tm a w (4 - y) y q) < 2 ^ 63) → IFb a V S → BDn a V w 0 S → S.2 54 8 = lN lim → (∀ S', S'.1 = S.1 → (∀ k i, ¬ (k = 54 ∧ (i = 9 ∨ i = 10)) → S'.2 k i = S.2 k i) → S'.2 54 9 = S.2 54 9 + lN (cntG a w lim sum (4 - y) y u) → S'.2 54 10 = S.2 54 10 + lN (wg * wsG a w lim sum (4 - y) y u) → Q S') → CALLv g (2 * n + d + 5) mX4_gather [.ref 54, .int (nI w), .int (nI (off V y + A.length)), .int (nI y), .long (lN sum), .long (lN wg)] ρ ρ S Q := by
  have hle := hW.le
  have hT := hW.told hR
  have hcapF := FA_cap hW hR
  -- what all of them give, and none
  have ends : ∀ y u A B sum wg S (Q : St → Prop), y ≤ nR a → V y = A ++ u :: B → IFb a V S → (∀ S', S'.1 = S.1 → (∀ k i, ¬ (k = 54 ∧ (i = 9 ∨ i = 10)) → S'.2 k i = S.2 k i) → S'.2 54 9 = S.2 54 9 + lN (cntG a w lim sum (4 - y) y u) → S'.2 54 10 = S.2 54 10 + lN (wg * wsG a w lim sum (4 - y) y u) → Q S') → ((∀ q, q ∈ PT a (4 - y) y u → stq w lim sum (tm a w (4 - y) y) q = true) → Q (setL (setL S 54 9 (S.2 54 9 + S.2 47 (off V y + A.length))) 54 10 (S.2 54 10 + lN wg * S.2 48 (off V y + A.length)))) ∧ ((∀ q, q ∈ PT a (4 - y) y u → stq w lim sum (tm a w (4 - y) y) q = false) → Q S) := by
    intro y u A B sum wg S Q hy e hI hQ
    have hu := (hI.1.mem hy e).1
    obtain ⟨ha1, ha2⟩ := hI.2.1 y A u B hy e (Nat.zero_le _)
    refine ⟨fun hst => ?_, fun hst => ?_⟩
    · obtain ⟨g1, g2⟩ := all_G hu hst
      refine hQ _ rfl (fun k i hk => ?_) ?_ ?_
      · rw [setL_at, if_neg (fun z => hk ⟨z.1, Or.inr z.2⟩), setL_at, if_neg (fun z => hk ⟨z.1, Or.inl z.2⟩)]
      · rw [setL_at, if_neg (by omega), setL_at, if_pos ⟨rfl, rfl⟩, ha1, g1]
      · rw [setL_at, if_pos ⟨rfl, rfl⟩, ha2, lN_mul, g2]
    · obtain ⟨g1, g2⟩ := no_G hst
      refine hQ S rfl (fun _ _ _ => rfl) ?_ ?_
      · rw [g1, add0]
      · rw [g2, Nat.mul_zero, add0]
  intro n
  induction n with
  | zero =>
    intro y u A B sum wg S Q hy e hne hsb hI hB h67 hQ
    have hD := hI.1
    obtain ⟨cN, cL⟩ := hD.cap hW hR
    have hnl := DG.node_lt (a := a) (show y < nR a + 1 by omega) e
    obtain ⟨lo, hi, q1, q2, q3, q4⟩ := hB y A u B (by omega) e (Nat.zero_le _) hne
    have ePT := PT_end hW hR (4 - y) y u (by omega)
    have hlh : lo = hi := by
      obtain ⟨r, r1, r2⟩ := q1.1
      obtain ⟨t, t1, t2⟩ := q2.1
      rw [ePT] at r1 t1
      rw [List.mem_singleton.mp r1] at r2
      rw [List.mem_singleton.mp t1] at t2
      omega
    obtain ⟨en1, en2⟩ := ends y u A B sum wg S Q (by omega) e hI hQ
    exact sC_gtop (R := nR a) hρ hF hw hlim (by omega) (by omega) hle.1 q1 q2 q3 q4 hsb h67 en1 en2 (fun z => absurd z (by omega)) (fun _ => hlh)
  | succ n ih =>
    intro y u A B sum wg S Q hy e hne hsb hI hB h67 hQ
    have hD := hI.1
    obtain ⟨cN, cL⟩ := hD.cap hW hR
    have hyR : y < nR a := by omega
    have hu := (hD.mem (show y ≤ nR a by omega) e).1
    have hnl := DG.node_lt (a := a) (show y < nR a + 1 by omega) e
    have hlk := DG.lk_lt (a := a) hyR e
    obtain ⟨f1, f2⟩ := hD.first hyR e
    obtain ⟨lo, hi, q1, q2, q3, q4⟩ := hB y A u B (by omega) e (Nat.zero_le _) hne
    obtain ⟨en1, en2⟩ := ends y u A B sum wg S Q (by omega) e hI hQ
    rw [show 2 * (n + 1) + d + 5 = 2 * n + d + 7 by omega]
    refine sC_gtop (R := nR a) hρ hF hw hlim (by omega) (by omega) hle.1 q1 q2 q3 q4 hsb h67 en1 en2 (fun _ => ?_) (fun z => absurd hyR z)
    have e4 : 4 - y = (3 - y) + 1 := by omega
    have e41 : 4 - (y + 1) = 3 - y := by omega
    have hyn : n + (y + 1) = nR a := by omega
    rw [e4] at hsb hQ
    refine eX4_gatherBehind hρ ?_
    rw [nI_1 (off V y + A.length), nI_clamp (show off V y + A.length + 1 < 2 ^ 31 by omega), nI_clamp (show off V y + A.length < 2 ^ 31 by omega), f1, f2]
    refine ⟨vp_in_nI (by omega) (by omega), nI_nlt (b := 0) (by omega) (by omega), nI_nlt (a := 4800) (by omega) (by omega), vp_in_nI (by omega) (by omega), nI_nlt (b := 0) (by omega) (by omega), nI_nlt (a := 4800) (by omega) (by omega), ?_⟩
    have loop : ∀ (R P : List Nat) S1, lnk a y u = P ++ R → S1.1 = S.1 → (∀ k i, ¬ (k = 54 ∧ (i = 9 ∨ i = 10)) → S1.2 k i = S.2 k i) → S1.2 54 9 = S.2 54 9 + lN ((P.flatMap (blkT a (3 - y) y u)).filter (stq w lim sum (tm a w (3 - y + 1) y))).length → S1.2 54 10 = S.2 54 10 + lN (wg * sml (prR rwH (3 - y + 1) y) ((P.flatMap (blkT a (3 - y) y u)).filter (stq w lim sum (tm a w (3 - y + 1) y)))) → AW g ρ (QV Q) (2 * n + d + 4 + 2) mX4_gatherBehind 24 [(0, .ref 54), (1, .int (nI w)), (2, .int (nI (off V y + A.length))), (3, .int (nI y)), (4, .long (lN sum)), (6, .long (lN wg)), (8, .ref 31), (9, .int (nI (lof a V y + LC a y A + (lnk a y u).length))), (10, .int (nI (lof a V y + LC a y A + P.length)))] [] ρ S1 := by
      intro R
      induction R with
      | nil =>
        intro P S1 el s1 s2 s3 s4
        rw [List.append_nil] at el
        refine eX4_gatherBehind_24 hρ ?_
        rw [← el, if_pos (nI_le (Nat.le_refl _) (by omega))]
        refine hQ S1 s1 s2 ?_ ?_
        · rw [s3, ← el, ← PT_fm]
          unfold cntG
          exact Eq.refl _
        · rw [s4, ← el, ← PT_fm]
          unfold wsG
          exact Eq.refl _
      | cons l R ihR =>
        intro P S1 el s1 s2 s3 s4
        have hPl : P.length < (lnk a y u).length := by rw [el, List.length_append, List.length_cons]; omega
        have hgl : (lnk a y u).getD P.length 0 = l := by rw [el]; exact getD_mid
        have hlm : l ∈ lnk a y u := by rw [el]; simp
        have hs2 := (fts_sub hu (lnk_mem.mp hlm).2).2.1
        have s2' : ∀ k, k ≠ 54 → S1.2 k = S.2 k := fun k c1 => funext fun i => s2 k i (fun z => c1 z.1)
        have hnx := DG.node_lt (a := a) (show y < y + 1 by omega) e
        have hI1 : IFb a V S1 := hI.fr (fun k hk => by rw [s1]) (fun k hk => s2' k (by unfold FFb at hk; omega))
        have hB1 : BDn a V w 0 S1 := hB.of (s2' _ (by omega)) (s2' _ (by omega))
        obtain ⟨k, A', B', l1, l2, l3, l4, l5⟩ := hI1.1.link hyR e hPl
        rw [hgl] at l3 l5
        have hpt2 : S1.2 (38 + w) k = lN (mrow a w y (dg l)) := l3.part hw
        have hpt0 : S1.2 38 k = lN (rowW (dg l)) := l3.part (w := 0) (by omega)
        have hto := DG.node_lt (a := a) (show y + 1 < nR a + 1 by omega) l5
        have ha := (hI1.2.1 (y + 1) A' _ B' (by omega) l5 (Nat.zero_le _)).1
        rw [e41] at ha
        have hG := GT1_lt (a := a) (n := 3 - y) (y := y + 1) (by omega) hs2
        have hlen := PT_len (a := a) (n := 3 - y) (y := y + 1) hs2
        have ez : lN (GT a (fun _ _ => 1) (3 - y) (y + 1) (u - tk l)) ≤ (0 : Int64) ↔ GT a (fun _ _ => 1) (3 - y) (y + 1) (u - tk l) ≤ 0 := lNle (n := 0) (by omega) (by omega)
        have v7 : vp_in (nI (lof a V y + LC a y A + P.length)) 4800 := vp_in_nI (by omega) (by omega)
        have vt : vp_in (nI (off V (y + 1) + A'.length)) 480 := vp_in_nI (by omega) (by omega)
        have vk : vp_in (nI k) 320 := vp_in_nI (by omega) (by omega)
        have vw : vp_in (nI w) 4 := vp_in_nI hw (by omega)
        have efm : (P ++ [l]).flatMap (blkT a (3 - y) y u) = P.flatMap (blkT a (3 - y) y u) ++ blkT a (3 - y) y u l := by
          rw [List.flatMap_append, List.flatMap_cons, List.flatMap_nil, List.append_nil]
        obtain ⟨bc, bw⟩ := blk_cnt (a := a) (w := w) (lim := lim) (sum := sum) (n := 3 - y) (y := y) hs2
        refine eX4_gatherBehind_24 hρ ?_
        rw [if_neg (nI_ge (by omega) (by omega)), nI_clamp (show lof a V y + LC a y A + P.length < 2 ^ 31 by omega), l4, if_neg (show ¬ nI (off V (y + 1) + A'.length) ≤ nI (off V y + A.length) from nI_ge (by omega) (by omega)), nI_clamp (show off V (y + 1) + A'.length < 2 ^ 31 by omega), ha, l1, nI_clamp (show k < 2 ^ 31 by omega), nI_clamp (show w < 2 ^ 31 by omega)]
        refine ⟨v7, vt, ?_⟩
        by_cases c : GT a (fun _ _ => 1) (3 - y) (y + 1) (u - tk l) = 0
        · rw [if_pos (ez.mpr (by omega))]
          have hb0 : blkT a (3 - y) y u l = [] := by
            unfold blkT
            rw [List.length_eq_zero_iff.mp (show (PT a (3 - y) (y + 1) (u - tk l)).length = 0 by omega)]
            rfl
          have := ihR (P ++ [l]) S1 (by rw [el, List.append_assoc]; rfl) s1 s2 (by rw [efm, hb0, List.append_nil]; exact s3) (by rw [efm, hb0, List.append_nil]; exact s4)
          rw [len1] at this
          rw [nI_1]
          exact this
        · rw [if_neg (fun z => c (by have := ez.mp z; omega)), hpt2]
          have hne2 : PT a (4 - (y + 1)) (y + 1) (u - tk l) ≠ [] := fun z => by
            rw [e41] at z
            rw [z] at hlen
            exact c hlen.symm
          have hsb2 : ∀ q, q ∈ PT a (3 - y) (y + 1) (u - tk l) → jn w (jn w sum (mrow a w y (dg l))) (tm a w (3 - y) (y + 1) q) < 2 ^ 63 := by
            intro q hq
            have hm : l * 65536 ^ (3 - y) + q ∈ PT a (3 - y + 1) y u := by
              rw [PT_fm]
              refine List.mem_flatMap.mpr ⟨l, hlm, ?_⟩
              unfold blkT
              exact List.mem_map.mpr ⟨q, hq, rfl⟩
            have := hsb _ hm
            rw [tm_s (PT_lt hs2 hq), ← jn_as] at this
            exact this
          have hb3 : w = 3 → sum < 2 ^ 63 ∧ mrow a w y (dg l) < 2 ^ 63 := fun e3 => by
            obtain ⟨q, hq⟩ := List.exists_mem_of_ne_nil _ hne2
            rw [e41] at hq
            have := hsb2 q hq
            unfold jn at this
            rw [e3, if_neg (by decide), if_pos rfl, if_neg (by decide), if_pos rfl] at this
            rw [e3]
            omega
          have beh : AW g ρ (QV Q) (2 * n + d + 4 + 2) mX4_gatherBehind 86 [(0, .ref 54), (1, .int (nI w)), (2, .int (nI (off V y + A.length))), (3, .int (nI y)), (4, .long (lN sum)), (6, .long (lN wg)), (8, .ref 31), (9, .int (nI (lof a V y + LC a y A + (lnk a y u).length))), (10, .int (nI (lof a V y + LC a y A + P.length))), (11, .int (nI (off V (y + 1) + A'.length))), (12, .long (lN (mrow a w y (dg l))))] [.long (lN (rowW (dg l)))] ρ S1 := by
            refine eX4_gatherBehind_86 hρ ?_
            refine sC_join hρ hw hb3 ?_
            rw [lN_mul, nI_1 y]
            refine ih (y + 1) (u - tk l) A' B' (jn w sum (mrow a w y (dg l))) (wg * rowW (dg l)) S1 _ hyn l5 hne2 (by rw [e41]; exact hsb2) hI1 hB1 (by rw [s2 54 8 (fun z => by omega)]; exact h67) (fun S3 m1 m2 m3 m4 => ?_)
            rw [e41] at m3 m4
            have := ihR (P ++ [l]) S3 (by rw [el, List.append_assoc]; rfl) (m1.trans s1) (fun k i hk => (m2 k i hk).trans (s2 k i hk)) (by rw [efm, List.filter_append, List.length_append, m3, s3, bc, ← lN_add, Int64.add_assoc]) (by rw [efm, List.filter_append, sml_app, m4, s4, bw, Nat.mul_add, ← lN_add, Int64.add_assoc, Nat.mul_assoc])
            rw [len1] at this
            rw [nI_1]
            exact this
          refine ⟨vw, v7, vk, ?_⟩
          by_cases cw : w = 0
          · have er : rowW (dg l) = mrow a w y (dg l) := by rw [cw]; rfl
            rw [er] at beh
            rw [if_pos (show nI w = (0 : Int32) by rw [cw]; rfl)]
            exact beh
          · rw [if_neg (show ¬ nI w = (0 : Int32) from fun z => cw ((nI_eq (b := 0) (by omega) (by omega)).mp z)), hpt0]
            exact ⟨v7, vk, beh⟩
    refine loop (lnk a y u) [] S (List.nil_append _).symm rfl (fun _ _ _ => rfl) ?_ ?_
    · show _ = _ + lN 0
      rw [add0]
    · show _ = _ + lN (wg * 0)
      rw [Nat.mul_zero, add0]
end GA
