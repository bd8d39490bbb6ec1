-- BOUNDS OF THE MEASURES BEHIND A NODE
def tm (a : AS) (w : Nat) : Nat → Nat → Nat → Nat
  | 0, _, _ => stt w
  | n + 1, y, q => jn w (mrow a w y (dg (q / 65536 ^ n))) (tm a w n (y + 1) (q % 65536 ^ n))
theorem tm_s {a : AS} {w n y l q : Nat} (hq : q < 65536 ^ n) : tm a w (n + 1) y (l * 65536 ^ n + q) = jn w (mrow a w y (dg l)) (tm a w n (y + 1) q) := by
  have hB := Nat.pow_pos (n := n) (show 0 < 65536 by decide)
  show jn w (mrow a w y (dg ((l * 65536 ^ n + q) / 65536 ^ n))) (tm a w n (y + 1) ((l * 65536 ^ n + q) % 65536 ^ n)) = _
  rw [Nat.mul_comm l, Nat.mul_add_div hB, Nat.div_eq_of_lt hq, Nat.add_zero, Nat.mul_add_mod, Nat.mod_eq_of_lt hq]
theorem jn_mono (w p : Nat) {m n : Nat} (h : m ≤ n) : jn w p m ≤ jn w p n := by
  unfold jn
  split
  · exact Nat.mul_le_mul_left _ h
  · split <;> omega
theorem jn_e {w : Nat} (hw : w < 4) (s : Nat) : jn w s (stt w) = s ∧ jn w (stt w) s = s := by
  unfold jn stt
  rcases (show w = 0 ∨ w = 1 ∨ w = 2 ∨ w = 3 by omega) with rfl | rfl | rfl | rfl <;> simp
theorem mrow_z {a : AS} {w y : Nat} {f : Nat → Nat} (hf : ∀ x, f x = 0) : mrow a w y f = stt w := by
  unfold mrow stt
  by_cases c : w = 0
  · rw [if_pos c, if_pos c, rowW_0 hf]
  · rw [if_neg c, if_neg c, mrS_zero c (C := 0) (fun x _ => hf x) 4 (by omega)]
    rfl
theorem meaN_cut {a : AS} {w : Nat} (hw : w < 4) {t : Nat → Nat → Nat} {R : Nat} (h : ∀ y x, R ≤ y → t y x = 0) : ∀ n, R ≤ n → meaN a w t n = meaN a w t R
  | 0, hn => by rw [show R = 0 by omega]
  | n + 1, hn => by
    by_cases c : R = n + 1
    · rw [c]
    · show jn w (meaN a w t n) (mrow a w n (t n)) = _
      rw [mrow_z (fun x => h n x (by omega)), (jn_e hw _).1, meaN_cut hw h n (by omega)]
theorem tm_mea {a : AS} (hW : WF a) (hR : nR a ≠ 0) {w p : Nat} (hw : w < 4) (hp : p ∈ KK a) : mea a w (unp p) = tm a w 4 0 p := by
  have hp64 : p < 2 ^ 64 := (KK_mem.mp hp).1
  obtain ⟨p1, -, -⟩ := KK_tab hW hR hp
  have r0 : ro p 0 = p / 281474976710656 % 65536 := rfl
  have r1 : ro p 1 = p / 4294967296 % 65536 := rfl
  have r2 : ro p 2 = p / 65536 % 65536 := rfl
  have r3 : ro p 3 = p / 1 % 65536 := rfl
  unfold mea
  rw [← meaN_cut hw (fun y x hy => p1.1 y x (by omega)) 4 hW.le.1]
  show jn w (jn w (jn w (jn w (stt w) (mrow a w 0 (unp p 0))) (mrow a w 1 (unp p 1))) (mrow a w 2 (unp p 2))) (mrow a w 3 (unp p 3)) = jn w (mrow a w 0 (dg (p / 281474976710656))) (jn w (mrow a w 1 (dg (p % 281474976710656 / 4294967296))) (jn w (mrow a w 2 (dg (p % 281474976710656 % 4294967296 / 65536))) (jn w (mrow a w 3 (dg (p % 281474976710656 % 4294967296 % 65536 / 1))) (stt w))))
  rw [show p / 281474976710656 = ro p 0 by rw [r0]; omega, show p % 281474976710656 / 4294967296 = ro p 1 by rw [r1]; omega, show p % 281474976710656 % 4294967296 / 65536 = ro p 2 by rw [r2]; omega, show p % 281474976710656 % 4294967296 % 65536 / 1 = ro p 3 by rw [r3]; omega]
  rw [mrow_cg (a := a) (w := w) (y := 0) (ro_dg (p := p) (y := 0) (by omega)), mrow_cg (a := a) (w := w) (y := 1) (ro_dg (p := p) (y := 1) (by omega)), mrow_cg (a := a) (w := w) (y := 2) (ro_dg (p := p) (y := 2) (by omega)), mrow_cg (a := a) (w := w) (y := 3) (ro_dg (p := p) (y := 3) (by omega)), (jn_e hw _).1, (jn_e hw _).2, jn_as, jn_as]
def eS (a : AS) : Nat → Nat → Nat
  | 0, _ => 0
  | n + 1, y => rsum (cel a) y + eS a n (y + 1)
theorem eS_eq (a : AS) : ∀ n y, fb_sm (rsum (cel a)) y + eS a n y = fb_sm (rsum (cel a)) (y + n)
  | 0, y => rfl
  | n + 1, y => by
    have := eS_eq a n (y + 1)
    rw [sm_s] at this
    show _ + (rsum (cel a) y + eS a n (y + 1)) = fb_sm _ (y + (n + 1))
    rw [show y + (n + 1) = y + 1 + n by omega, ← this]
    omega
theorem eS_le {a : AS} (h : Told a) {n y : Nat} (hy : y + n ≤ 4) : eS a n y ≤ 20 := by
  have h1 := eS_eq a n y
  have h2 := sm_mono (rsum (cel a)) (m := y + n) 4 hy
  rw [sm4] at h2
  have h3 := h.2.2.2.2.2.2.2.1
  unfold tsum at h3
  omega
theorem mrS_le {a : AS} (h : Told a) {w y : Nat} (hw : w ≠ 0) (hy : y < 4) {f : Nat → Nat} (hf : ∀ x, f x < 16) : ∀ n, n ≤ 4 → mrS a w y f n ≤ n * 5760000000000
  | 0, _ => by rw [Nat.zero_mul]; exact Nat.le_refl _
  | n + 1, hn => by
    have ih := mrS_le h hw hy hf n (by omega)
    have h1 := mtm_le h (w := w) (y := y) (x := n) (hf n) hy (by omega)
    show jn w _ _ ≤ _
    unfold jn
    rw [if_neg hw]
    split <;> omega
theorem tm_le {a : AS} (hT : Told a) {w : Nat} : ∀ n y u q, u < topU → y + n ≤ 4 → q ∈ PT a n y u → (w = 0 → tm a w n y q ≤ 4 ^ eS a n y) ∧ (w ≠ 0 → tm a w n y q ≤ n * 23040000000000)
  | 0, y, u, q, _, _, _ => by
    refine ⟨fun h => ?_, fun h => ?_⟩
    · show stt w ≤ 1
      unfold stt
      rw [if_pos h]
      exact Nat.le_refl _
    · show stt w ≤ _
      unfold stt
      rw [if_neg h]
      exact Nat.zero_le _
  | n + 1, y, u, q, hu, hy, hq => by
    obtain ⟨l, P, R, el, -, hq', eq⟩ := mem_PT hu hq
    have hlm : l ∈ lnk a y u := by rw [el]; simp
    obtain ⟨l1, l2⟩ := lnk_mem.mp hlm
    have hs := (fts_sub hu l2).2.1
    have hql := PT_lt hs hq'
    obtain ⟨-, l4, -⟩ := LL_dg l1
    have ih := tm_le (w := w) hT n (y + 1) (u - tk l) _ hs (by omega) hq'
    rw [eq, tm_s hql]
    refine ⟨fun h => ?_, fun h => ?_⟩
    · have i1 := ih.1 h
      have hr := rowW_4 (f := dg l) (by rw [l4]; exact hT.sums.1 y)
      rw [l4] at hr
      unfold jn mrow
      rw [if_pos h, if_pos h]
      show _ ≤ 4 ^ (rsum (cel a) y + eS a n (y + 1))
      rw [Nat.pow_add]
      exact Nat.mul_le_mul hr i1
    · have i2 := ih.2 h
      have hm := mrS_le hT h (show y < 4 by omega) (dg_lt l) 4 (Nat.le_refl _)
      unfold jn mrow
      rw [if_neg h, if_neg h, Nat.succ_mul]
      split <;> omega
theorem tm_lt {a : AS} (hT : Told a) {w n y u q : Nat} (hu : u < topU) (hy : y + n ≤ 4) (hq : q ∈ PT a n y u) : tm a w n y q < 2 ^ 62 := by
  have h := tm_le (w := w) hT n y u q hu hy hq
  by_cases c : w = 0
  · have h1 := h.1 c
    have h2 := eS_le hT hy
    exact Nat.lt_of_le_of_lt h1 (Nat.lt_of_le_of_lt (Nat.pow_le_pow_right (by decide) h2) (by decide))
  · have h1 := h.2 c
    have : n * 23040000000000 ≤ 4 * 23040000000000 := Nat.mul_le_mul_right _ (by omega)
    omega
def LoP (f : Nat → Nat) (L : List Nat) (v : Nat) : Prop := (∃ q, q ∈ L ∧ f q = v) ∧ ∀ q, q ∈ L → v ≤ f q
def HiP (f : Nat → Nat) (L : List Nat) (v : Nat) : Prop := (∃ q, q ∈ L ∧ f q = v) ∧ ∀ q, q ∈ L → f q ≤ v
theorem LoP.app {f : Nat → Nat} {L M : List Nat} {v w : Nat} (h : LoP f L v) (k : LoP f M w) : LoP f (L ++ M) (min v w) := by
  obtain ⟨⟨q, q1, q2⟩, h2⟩ := h
  obtain ⟨⟨r, r1, r2⟩, k2⟩ := k
  refine ⟨?_, fun s hs => ?_⟩
  · rcases Nat.le_total v w with c | c
    · exact ⟨q, by simp [q1], by rw [Nat.min_eq_left c]; exact q2⟩
    · exact ⟨r, by simp [r1], by rw [Nat.min_eq_right c]; exact r2⟩
  · rcases List.mem_append.mp hs with z | z
    · have := h2 s z; omega
    · have := k2 s z; omega
theorem HiP.app {f : Nat → Nat} {L M : List Nat} {v w : Nat} (h : HiP f L v) (k : HiP f M w) : HiP f (L ++ M) (max v w) := by
  obtain ⟨⟨q, q1, q2⟩, h2⟩ := h
  obtain ⟨⟨r, r1, r2⟩, k2⟩ := k
  refine ⟨?_, fun s hs => ?_⟩
  · rcases Nat.le_total v w with c | c
    · exact ⟨r, by simp [r1], by rw [Nat.max_eq_right c]; exact r2⟩
    · exact ⟨q, by simp [q1], by rw [Nat.max_eq_left c]; exact q2⟩
  · rcases List.mem_append.mp hs with z | z
    · have := h2 s z; omega
    · have := k2 s z; omega
/-- the ways by one line -/
def blkT (a : AS) (n y u l : Nat) : List Nat := (PT a n (y + 1) (u - tk l)).map (fun q => l * 65536 ^ n + q)
theorem blk_lo {a : AS} {w n y u l v : Nat} (hs : u - tk l < topU) (h : LoP (tm a w n (y + 1)) (PT a n (y + 1) (u - tk l)) v) : LoP (tm a w (n + 1) y) (blkT a n y u l) (jn w (mrow a w y (dg l)) v) := by
  obtain ⟨⟨q, q1, q2⟩, h2⟩ := h
  refine ⟨⟨l * 65536 ^ n + q, List.mem_map.mpr ⟨q, q1, rfl⟩, ?_⟩, fun s hs2 => ?_⟩
  · rw [tm_s (PT_lt hs q1), q2]
  · obtain ⟨r, r1, rfl⟩ := List.mem_map.mp hs2
    rw [tm_s (PT_lt hs r1)]
    exact jn_mono _ _ (h2 r r1)
theorem blk_hi {a : AS} {w n y u l v : Nat} (hs : u - tk l < topU) (h : HiP (tm a w n (y + 1)) (PT a n (y + 1) (u - tk l)) v) : HiP (tm a w (n + 1) y) (blkT a n y u l) (jn w (mrow a w y (dg l)) v) := by
  obtain ⟨⟨q, q1, q2⟩, h2⟩ := h
  refine ⟨⟨l * 65536 ^ n + q, List.mem_map.mpr ⟨q, q1, rfl⟩, ?_⟩, fun s hs2 => ?_⟩
  · rw [tm_s (PT_lt hs q1), q2]
  · obtain ⟨r, r1, rfl⟩ := List.mem_map.mp hs2
    rw [tm_s (PT_lt hs r1)]
    exact jn_mono _ _ (h2 r r1)
/-- the bounds of the nodes from n on stand in the store -/
def BDn (a : AS) (V : Nat → List Nat) (w n : Nat) (S : St) : Prop := ∀ j A u B, j ≤ nR a → V j = A ++ u :: B → n ≤ off V j + A.length → PT a (4 - j) j u ≠ [] → ∃ lo hi, LoP (tm a w (4 - j) j) (PT a (4 - j) j u) lo ∧ HiP (tm a w (4 - j) j) (PT a (4 - j) j u) hi ∧ S.2 (56 + w) (off V j + A.length) = lN lo ∧ S.2 (61 + w) (off V j + A.length) = lN hi
theorem PT_fm (a : AS) (n y u : Nat) : PT a (n + 1) y u = (lnk a y u).flatMap (blkT a n y u) := by
  have e : (fun l => (PT a n (y + 1) (u - tk l)).map (fun q => l * 65536 ^ n + q)) = blkT a n y u := by
    funext l
    unfold blkT
    exact Eq.refl _
  rw [PT_s, e]
section BN
variable {g : GX} {d : Nat} {ρ : Rs} {S : St} {a : AS} {V : Nat → List Nat}
theorem sC_boundNode {Q : St → Prop} (hρ : Ok ρ) (hF5 : ∀ i, i < 4 → gF g (56 + i)) (hF6 : ∀ i, i < 4 → gF g (61 + i)) (hW : WF a) (hR : nR a ≠ 0) (hD : DG a V S) (hA : AHd a V 0 S) {w j u : Nat} (hw : w < 4) (hj : j < nR a) {A B : List Nat} (e : V j = A ++ u :: B) (hB : BDn a V w (off V j + A.length + 1) S)
    (h : ∀ S', S'.1 = S.1 → (∀ k i, ¬ ((k = 56 + w ∨ k = 61 + w) ∧ i = off V j + A.length) → S'.2 k i = S.2 k i) → (PT a (4 - j) j u ≠ [] → ∃ lo hi, LoP (tm a w (4 - j) j) (PT a (4 - j) j u) lo ∧ HiP (tm a w (4 - j) j) (PT a (4 - j) j u) hi ∧ S'.2 (56 + w) (off V j + A.length) = lN lo ∧ S'.2 (61 + w) (off V j + A.length) = lN hi) → Q S') : CALLv g (d + 5) mX4_boundNode [.ref 54, .int (nI w), .int (nI (off V j + A.length))] ρ ρ S Q := by
  have hle := hW.le
  have hT := hW.told hR
  obtain ⟨cN, cL⟩ := hD.cap hW hR
  have hcapF := FA_cap hW hR
  have hu := (hD.mem (show j ≤ nR a by omega) e).1
  obtain ⟨f1, f2⟩ := hD.first hj e
  have hlk := DG.lk_lt (a := a) hj e
  have hnl := DG.node_lt (a := a) (show j < nR a + 1 by omega) e
  refine eX4_boundNode hρ ?_
  rw [nI_1 (off V j + A.length), nI_clamp (show off V j + A.length + 1 < 2 ^ 31 by omega), nI_clamp (show off V j + A.length < 2 ^ 31 by omega), f1, f2]
  refine ⟨vp_in_nI (by omega) (by omega), nI_nlt (b := 0) (by omega) (by omega), nI_nlt (a := 4800) (by omega) (by omega), vp_in_nI (by omega) (by omega), nI_nlt (b := 0) (by omega) (by omega), nI_nlt (a := 4800) (by omega) (by omega), ?_⟩
  have e4 : 4 - j = (3 - j) + 1 := by omega
  have vn : vp_in (nI (off V j + A.length)) 480 := vp_in_nI (by omega) (by omega)
  have vw : vp_in (nI w) 4 := vp_in_nI hw (by omega)
  have loop : ∀ (R P : List Nat) (x3 : Int32) (w4 w6 : Int64), lnk a j u = P ++ R → ((x3 = 1 ∧ P.flatMap (blkT a (3 - j) j u) = []) ∨ (x3 = 0 ∧ ∃ lo hi, LoP (tm a w (4 - j) j) (P.flatMap (blkT a (3 - j) j u)) lo ∧ HiP (tm a w (4 - j) j) (P.flatMap (blkT a (3 - j) j u)) hi ∧ lo < 2 ^ 62 ∧ hi < 2 ^ 62 ∧ w4 = lN lo ∧ w6 = lN hi)) → AW g ρ (QV Q) (d + 3 + 2) mX4_boundNode 30 [(0, .ref 54), (1, .int (nI w)), (2, .int (nI (off V j + A.length))), (3, .int x3), (4, .long w4), (6, .long w6), (8, .int (nI (lof a V j + LC a j A + (lnk a j u).length))), (9, .int (nI (lof a V j + LC a j A + P.length)))] [] ρ S := by
    intro R
    induction R with
    | nil =>
      intro P x3 w4 w6 el s3
      rw [List.append_nil] at el
      refine eX4_boundNode_30 hρ hF5 hF6 ?_
      rw [← el, if_pos (nI_le (Nat.le_refl _) (by omega)), nI_clamp (show w < 2 ^ 31 by omega), nI_clamp (show off V j + A.length < 2 ^ 31 by omega)]
      refine ⟨vw, vn, vw, vn, h _ rfl (fun k i hk => ?_) (fun hne => ?_)⟩
      · rw [setL_at, if_neg (fun z => hk ⟨Or.inr z.1, z.2⟩), setL_at, if_neg (fun z => hk ⟨Or.inl z.1, z.2⟩)]
      · have ePT : PT a (4 - j) j u = P.flatMap (blkT a (3 - j) j u) := by rw [e4, PT_fm, el]
        rw [ePT] at hne ⊢
        rcases s3 with ⟨-, z⟩ | ⟨-, lo, hi, k1, k2, -, -, k3, k4⟩
        · exact absurd z hne
        · refine ⟨lo, hi, k1, k2, ?_, ?_⟩
          · rw [setL_ne _ _ _ (by omega), setL_at, if_pos ⟨rfl, rfl⟩]; exact k3
          · rw [setL_at, if_pos ⟨rfl, rfl⟩]; exact k4
    | cons l R ihR =>
      intro P x3 w4 w6 el s3
      have hPl : P.length < (lnk a j u).length := by rw [el, List.length_append, List.length_cons]; omega
      have hgl : (lnk a j u).getD P.length 0 = l := by rw [el]; exact getD_mid
      have hlm : l ∈ lnk a j u := by rw [el]; simp
      have hs := (fts_sub hu (lnk_mem.mp hlm).2).2.1
      obtain ⟨k, A', B', l1, l2, l3, l4, l5⟩ := hD.link hj e hPl
      rw [hgl] at l3 l5
      have hpt := l3.part hw
      have hpt2 : S.2 (38 + w) k = lN (mrow a w j (dg l)) := hpt
      have hto := DG.node_lt (a := a) (show j + 1 < nR a + 1 by omega) l5
      have hne : off V (j + 1) + A'.length ≠ off V j + A.length := by
        have := DG.node_lt (a := a) (show j < j + 1 by omega) e
        omega
      have ha := (hA (j + 1) A' _ B' (by omega) l5 (Nat.zero_le _)).1
      rw [show 4 - (j + 1) = 3 - j by omega] at ha
      have hG := GT1_lt (a := a) (n := 3 - j) (y := j + 1) (by omega) hs
      have hlen := PT_len (a := a) (n := 3 - j) (y := j + 1) hs
      have ez : lN (GT a (fun _ _ => 1) (3 - j) (j + 1) (u - tk l)) ≤ (0 : Int64) ↔ GT a (fun _ _ => 1) (3 - j) (j + 1) (u - tk l) ≤ 0 := lNle (n := 0) (by omega) (by omega)
      have v4 : vp_in (nI (lof a V j + LC a j A + P.length)) 4800 := vp_in_nI (by omega) (by omega)
      have vt : vp_in (nI (off V (j + 1) + A'.length)) 480 := vp_in_nI (by omega) (by omega)
      have vk : vp_in (nI k) 320 := vp_in_nI (by omega) (by omega)
      have efm : (P ++ [l]).flatMap (blkT a (3 - j) j u) = P.flatMap (blkT a (3 - j) j u) ++ blkT a (3 - j) j u l := by
        rw [List.flatMap_append, List.flatMap_cons, List.flatMap_nil, List.append_nil]
      refine eX4_boundNode_30 hρ hF5 hF6 ?_
      rw [if_neg (nI_ge (by omega) (by omega)), nI_clamp (show lof a V j + LC a j A + P.length < 2 ^ 31 by omega), l4, nI_clamp (show off V (j + 1) + A'.length < 2 ^ 31 by omega), ha, l1, nI_clamp (show k < 2 ^ 31 by omega), nI_clamp (show w < 2 ^ 31 by omega), nI_1]
      refine ⟨v4, vt, ?_⟩
      by_cases c : GT a (fun _ _ => 1) (3 - j) (j + 1) (u - tk l) = 0
      · rw [if_pos (ez.mpr (by omega))]
        have hb0 : blkT a (3 - j) j u l = [] := by
          unfold blkT
          rw [List.length_eq_zero_iff.mp (show (PT a (3 - j) (j + 1) (u - tk l)).length = 0 by omega)]
          rfl
        have := ihR (P ++ [l]) x3 w4 w6 (by rw [el, List.append_assoc]; rfl) (by rw [efm, hb0, List.append_nil]; exact s3)
        rw [len1] at this
        exact this
      · rw [if_neg (fun z => c (by have := ez.mp z; omega))]
        have hne2 : PT a (4 - (j + 1)) (j + 1) (u - tk l) ≠ [] := fun z => by
          rw [show 4 - (j + 1) = 3 - j by omega] at z
          rw [z] at hlen
          exact c hlen.symm
        obtain ⟨lo', hi', k1, k2, k3, k4⟩ := hB (j + 1) A' _ B' (by omega) l5 (by
          have := DG.node_lt (a := a) (show j < j + 1 by omega) e
          omega) hne2
        rw [show 4 - (j + 1) = 3 - j by omega] at k1 k2
        have b1 := blk_lo (y := j) hs k1
        have b2 := blk_hi (y := j) hs k2
        have bl : lo' < 2 ^ 62 := by
          obtain ⟨q, q1, q2⟩ := k1.1
          rw [← q2]; exact tm_lt hT hs (by omega) q1
        have bh : hi' < 2 ^ 62 := by
          obtain ⟨q, q1, q2⟩ := k2.1
          rw [← q2]; exact tm_lt hT hs (by omega) q1
        have hin : ∀ q, q ∈ blkT a (3 - j) j u l → tm a w (3 - j + 1) j q < 2 ^ 62 := by
          intro q hq
          refine tm_lt hT hu (by omega) (show q ∈ PT a (3 - j + 1) j u from ?_)
          rw [PT_fm]
          exact List.mem_flatMap.mpr ⟨l, hlm, hq⟩
        have bl2 : jn w (mrow a w j (dg l)) lo' < 2 ^ 62 := by
          obtain ⟨q, q1, q2⟩ := b1.1
          rw [← q2]; exact hin q q1
        have bh2 : jn w (mrow a w j (dg l)) hi' < 2 ^ 62 := by
          obtain ⟨q, q1, q2⟩ := b2.1
          rw [← q2]; exact hin q q1
        have hm3 : w = 3 → mrow a w j (dg l) < 2 ^ 63 := fun e3 => by
          rw [e3]
          have := mrow3_lt (a := a) (y := j) (dg_lt l)
          omega
        rw [← e4] at b1 b2
        rw [hpt2, k3]
        refine ⟨vw, v4, vk, vw, vt, sC_join hρ hw (fun e3 => ⟨hm3 e3, by omega⟩) ⟨vw, vt, ?_⟩⟩
        rw [k4]
        refine sC_join hρ hw (fun e3 => ⟨hm3 e3, by omega⟩) ?_
        rcases s3 with ⟨r1, r2⟩ | ⟨r1, lo, hi, r2, r3, r4, r5, r6, r7⟩
        · rw [r1, if_neg (by decide), if_neg (by decide)]
          have := ihR (P ++ [l]) 0 (lN (jn w (mrow a w j (dg l)) lo')) (lN (jn w (mrow a w j (dg l)) hi')) (by rw [el, List.append_assoc]; rfl) (Or.inr ⟨rfl, jn w (mrow a w j (dg l)) lo', jn w (mrow a w j (dg l)) hi', ?_, ?_, bl2, bh2, rfl, rfl⟩)
          · rw [len1] at this
            exact this
          · rw [efm, r2, List.nil_append]; exact b1
          · rw [efm, r2, List.nil_append]; exact b2
        · have e5 : (if lN (jn w (mrow a w j (dg l)) lo') < w4 then lN (jn w (mrow a w j (dg l)) lo') else w4) = lN (min lo (jn w (mrow a w j (dg l)) lo')) := by
            rw [r6]
            by_cases cc : jn w (mrow a w j (dg l)) lo' < lo
            · rw [if_pos ((lNlt (by omega) (by omega)).mpr cc), Nat.min_eq_right (by omega)]
            · rw [if_neg (fun z => cc ((lNlt (by omega) (by omega)).mp z)), Nat.min_eq_left (by omega)]
          have e6 : (if lN (jn w (mrow a w j (dg l)) hi') < w6 then w6 else lN (jn w (mrow a w j (dg l)) hi')) = lN (max hi (jn w (mrow a w j (dg l)) hi')) := by
            rw [r7]
            by_cases cc : jn w (mrow a w j (dg l)) hi' < hi
            · rw [if_pos ((lNlt (by omega) (by omega)).mpr cc), Nat.max_eq_left (by omega)]
            · rw [if_neg (fun z => cc ((lNlt (by omega) (by omega)).mp z)), Nat.max_eq_right (by omega)]
          rw [r1, if_pos rfl, if_pos rfl, e5, e6]
          have := ihR (P ++ [l]) 0 (lN (min lo (jn w (mrow a w j (dg l)) lo'))) (lN (max hi (jn w (mrow a w j (dg l)) hi'))) (by rw [el, List.append_assoc]; rfl) (Or.inr ⟨rfl, min lo (jn w (mrow a w j (dg l)) lo'), max hi (jn w (mrow a w j (dg l)) hi'), ?_, ?_, by omega, by omega, rfl, rfl⟩)
          · rw [len1] at this
            exact this
          · rw [efm]; exact r2.app b1
          · rw [efm]; exact r3.app b2
  exact loop (lnk a j u) [] 1 0 0 (List.nil_append _).symm (Or.inl ⟨rfl, rfl⟩)
end BN
