-- MEASURES OF ONE TABLE, by the class; always the same cells; how much all weights are at most
theorem scl_smp {a b : AS} (h : Smp a b) : scl b = scl a := by unfold scl; rw [h.rs, h.cs]
theorem mtm_smp {a b : AS} (h : Smp a b) (w y x v : Nat) : mtm b w y x v = mtm a w y x v := by unfold mtm; rw [scl_smp h, h.rs, h.cs]
theorem mrS_smp {a b : AS} (h : Smp a b) (w y : Nat) (f : Nat → Nat) : ∀ n, mrS b w y f n = mrS a w y f n
  | 0 => rfl
  | n + 1 => by
    show jn w (mrS b w y f n) (mtm b w y n (f n)) = jn w (mrS a w y f n) (mtm a w y n (f n))
    rw [mrS_smp h w y f n, mtm_smp h]
theorem mrow_smp {a b : AS} (h : Smp a b) (w y : Nat) (f : Nat → Nat) : mrow b w y f = mrow a w y f := by unfold mrow; rw [mrS_smp h]
theorem meaN_smp {a b : AS} (h : Smp a b) (w : Nat) (t : Nat → Nat → Nat) : ∀ n, meaN b w t n = meaN a w t n
  | 0 => rfl
  | n + 1 => by
    show jn w (meaN b w t n) (mrow b w n (t n)) = jn w (meaN a w t n) (mrow a w n (t n))
    rw [meaN_smp h w t n, mrow_smp h]
theorem mea_smp {a b : AS} (h : Smp a b) (w : Nat) (t : Nat → Nat → Nat) : mea b w t = mea a w t := by unfold mea; rw [meaN_smp h, h.1]
theorem mrS_cg {a : AS} {w y : Nat} {f f' : Nat → Nat} : ∀ n, (∀ x, x < n → f x = f' x) → mrS a w y f n = mrS a w y f' n
  | 0, _ => rfl
  | n + 1, h => by
    show jn w (mrS a w y f n) (mtm a w y n (f n)) = jn w (mrS a w y f' n) (mtm a w y n (f' n))
    rw [mrS_cg n (fun x hx => h x (by omega)), h n (by omega)]
theorem mrow_cg {a : AS} {w y : Nat} {f f' : Nat → Nat} (h : ∀ x, x < 4 → f x = f' x) : mrow a w y f = mrow a w y f' := by
  unfold mrow
  rw [rowW_cg h, mrS_cg 4 h]
theorem fillAt.part {a : AS} {q : Nat × Nat} {k : Nat} {S : St} (h : fillAt a q k S) {w : Nat} (hw : w < 4) : S.2 (38 + w) k = lN (mrow a w q.1 (dg q.2)) := by
  rcases (show w = 0 ∨ w = 1 ∨ w = 2 ∨ w = 3 by omega) with rfl | rfl | rfl | rfl
  · exact h.2.2.2.1
  · exact h.2.2.2.2.1
  · exact h.2.2.2.2.2.1
  · exact h.2.2.2.2.2.2
theorem mrow3_lt {a : AS} {y : Nat} {f : Nat → Nat} (h : ∀ x, f x < 16) : mrow a 3 y f < 16 := mr3_lt h 4
theorem mea3_lt {a : AS} {t : Nat → Nat → Nat} (h : ∀ y x, t y x < 16) : ∀ n, meaN a 3 t n < 16
  | 0 => by show 0 < 16; omega
  | n + 1 => by
    have := mea3_lt (a := a) h n
    have := mrow3_lt (a := a) (y := n) (h n)
    show max (meaN a 3 t n) (mrow a 3 n (t n)) < 16
    omega
def binC : Bool := (List.range 21).all fun n => (List.range (n + 1)).all fun k => decide (bin n k ≤ 2 ^ n) && (decide (bin n k * 2 ^ (n - k) ≤ 3 ^ n) && decide (bin n k * 3 ^ (n - k) ≤ 4 ^ n))
theorem binC_t : binC = true := by decide +kernel
theorem bin_c {n k : Nat} (hn : n ≤ 20) (hk : k ≤ n) : bin n k ≤ 2 ^ n ∧ bin n k * 2 ^ (n - k) ≤ 3 ^ n ∧ bin n k * 3 ^ (n - k) ≤ 4 ^ n := by
  have h := binC_t
  unfold binC at h
  rw [List.all_eq_true] at h
  have h1 := h n (List.mem_range.mpr (by omega))
  rw [List.all_eq_true] at h1
  have h2 := h1 k (List.mem_range.mpr (by omega))
  rw [Bool.and_eq_true, Bool.and_eq_true] at h2
  exact ⟨of_decide_eq_true h2.1, of_decide_eq_true h2.2.1, of_decide_eq_true h2.2.2⟩
theorem rowW_4 {f : Nat → Nat} (h : s4 f ≤ 20) : rowW f ≤ 4 ^ s4 f := by
  unfold s4 at h
  have e1 : fb_sm f 1 = f 0 := Nat.zero_add _
  have e2 : fb_sm f 2 = f 0 + f 1 := by rw [sm_s, e1]
  have e3 : fb_sm f 3 = f 0 + f 1 + f 2 := by rw [sm_s, e2]
  have e4 : fb_sm f 4 = f 0 + f 1 + f 2 + f 3 := by rw [sm_s, e3]
  have b1 := (bin_ok (n := f 0) (k := f 0) (by omega) (Nat.le_refl _)).1
  have b2 := (bin_c (n := f 0 + f 1) (k := f 1) (by omega) (by omega)).1
  have b3 := (bin_c (n := f 0 + f 1 + f 2) (k := f 2) (by omega) (by omega)).2.1
  have b4 := (bin_c (n := f 0 + f 1 + f 2 + f 3) (k := f 3) (by omega) (by omega)).2.2
  rw [show f 0 + f 1 + f 2 - f 2 = f 0 + f 1 by omega] at b3
  rw [show f 0 + f 1 + f 2 + f 3 - f 3 = f 0 + f 1 + f 2 by omega] at b4
  have c1 : bin (f 0) (f 0) = 1 := by
    rw [Nat.sub_self, show fac 0 = 1 from rfl, Nat.mul_one] at b1
    exact Nat.eq_of_mul_eq_mul_right (fac_pos (f 0)) (by rw [b1, Nat.one_mul])
  show ((((1 * bin (fb_sm f 1) (f 0)) * bin (fb_sm f 2) (f 1)) * bin (fb_sm f 3) (f 2)) * bin (fb_sm f 4) (f 3)) ≤ 4 ^ (f 0 + f 1 + f 2 + f 3)
  rw [e1, e2, e3, e4, c1, Nat.one_mul]
  refine Nat.le_trans ?_ b4
  rw [Nat.mul_comm]
  refine Nat.mul_le_mul_left _ (Nat.le_trans ?_ b3)
  rw [Nat.mul_comm]
  exact Nat.mul_le_mul_left _ b2
theorem wgN_4 {t : Nat → Nat → Nat} : ∀ n, fb_sm (rsum t) n ≤ 20 → wgN t n ≤ 4 ^ fb_sm (rsum t) n
  | 0, _ => Nat.le_refl _
  | n + 1, h => by
    have h0 := sm_mono (rsum t) (m := n) (n + 1) (by omega)
    have ih := wgN_4 (t := t) n (by omega)
    have hr : rsum t n ≤ 20 := by rw [sm_s] at h; omega
    show wgN t n * rowW (t n) ≤ _
    rw [sm_s, Nat.pow_add]
    exact Nat.mul_le_mul ih (rowW_4 (f := t n) hr)
theorem wK_40 {a : AS} (hW : WF a) (hR : nR a ≠ 0) {p : Nat} (hp : p ∈ KK a) : wK a p ≤ 2 ^ 40 := by
  obtain ⟨-, p2, -⟩ := KK_tab hW hR hp
  have h1 := (hW.told hR).sm p2 hW.le.1
  have h2 := wgN_4 (t := unp p) (nR a) h1
  refine Nat.le_trans h2 (Nat.le_trans (Nat.pow_le_pow_right (by decide) h1) (by decide))
theorem one_len {L : List Nat} (hs : L.Pairwise (fun p q => p < q)) (h : ∀ p q, p ∈ L → q ∈ L → p = q) : L.length ≤ 1 := by
  cases L with
  | nil => exact Nat.zero_le _
  | cons p L =>
    cases L with
    | nil => exact Nat.le_refl _
    | cons q L =>
      rw [List.pairwise_cons] at hs
      have h1 := hs.1 q (by simp)
      have h2 := h p q (by simp) (by simp)
      omega
theorem lnk_one {a : AS} {y u : Nat} (hu : Vd a (rsum (cel a) y) u) : (lnk a y u).length ≤ 1 := by
  refine one_len (lnk_sorted a y u) (fun l l' hl hl' => ?_)
  have all : ∀ l, l ∈ lnk a y u → l < 65536 ∧ ∀ x, x < 4 → dg l x = lf u x := by
    intro l hl
    obtain ⟨h1, h2⟩ := lnk_mem.mp hl
    rw [fts_iff] at h2
    obtain ⟨h0, h3, -⟩ := LL_dg h1
    refine ⟨h0, fun x hx => ?_⟩
    have h4 := hu.2.2
    rw [← h3] at h4
    unfold s4 at h4
    have := h2 0 (by omega); have := h2 1 (by omega); have := h2 2 (by omega); have := h2 3 (by omega)
    rcases (show x = 0 ∨ x = 1 ∨ x = 2 ∨ x = 3 by omega) with rfl | rfl | rfl | rfl <;> omega
  exact l_ext (all l hl).1 (all l' hl').1 (fun x hx => by rw [(all l hl).2 x hx, (all l' hl').2 x hx])
theorem LL_159 {a : AS} (h : Told a) (y : Nat) : (LL a y).length ≤ 159 := by
  have h1 : (LL a y).length ≤ cn (SS a) (rsum (cel a) y + 21 * 0) := LL_cap h y (e := 0) (Nat.zero_le _)
  exact Nat.le_trans h1 ((SS_cap h).1 _ (h.sums.1 y))
theorem lnk_le (a : AS) (y u : Nat) : (lnk a y u).length ≤ (LL a y).length := by
  unfold lnk
  exact List.length_filter_le _ _
theorem sml_bd {f : Nat → Nat} {b : Nat} : ∀ L : List Nat, (∀ s, s ∈ L → f s ≤ b) → sml f L ≤ L.length * b
  | [], _ => Nat.zero_le _
  | p :: L, h => by
    have := sml_bd (f := f) (b := b) L (fun s hs => h s (by simp [hs]))
    have := h p (by simp)
    show f p + sml f L ≤ (L.length + 1) * b
    rw [Nat.succ_mul]
    omega
theorem GT1_3 {a : AS} (hW : WF a) (hR : nR a ≠ 0) : ∀ n y u, n + y = nR a → n ≠ 0 → Vd a (mY a y) u → GT a (fun _ _ => 1) (4 - y) y u ≤ 159 ^ (n - 1)
  | 0, _, _, _, h, _ => absurd rfl h
  | n + 1, y, u, hy, _, hu => by
    have hle := hW.le
    have ht := hW.told hR
    rw [show 4 - y = (4 - (y + 1)) + 1 by omega, GT_s]
    by_cases c : n = 0
    · have em : mY a y = rsum (cel a) y := by
        have h1 := mY_s (a := a) (y := y) (by omega)
        have h2 := mY_R hW hR
        rw [show nR a = y + 1 by omega] at h2
        omega
      rw [em] at hu
      have h1 := lnk_one hu
      have h2 := sml_bd (f := fun l => 1 * GT a (fun _ _ => 1) (4 - (y + 1)) (y + 1) (u - tk l)) (b := 1) (lnk a y u) (fun l _ => by
        show 1 * GT a (fun _ _ => 1) (4 - (y + 1)) (y + 1) (u - tk l) ≤ 1
        rw [GT_end hW hR (fun _ _ => rfl) _ _ _ (by omega)]
        exact Nat.le_refl _)
      rw [c]
      show _ ≤ 1
      omega
    · have h2 := sml_bd (f := fun l => 1 * GT a (fun _ _ => 1) (4 - (y + 1)) (y + 1) (u - tk l)) (b := 159 ^ (n - 1)) (lnk a y u) (fun l hl => by
        show 1 * GT a (fun _ _ => 1) (4 - (y + 1)) (y + 1) (u - tk l) ≤ _
        rw [Nat.one_mul]
        obtain ⟨l1, l2⟩ := lnk_mem.mp hl
        exact GT1_3 hW hR n (y + 1) (u - tk l) (by omega) c (Vd.sub (by omega) hu l1 l2))
      have h3 := Nat.le_trans (lnk_le a y u) (LL_159 ht y)
      refine Nat.le_trans h2 (Nat.le_trans (Nat.mul_le_mul_right _ h3) ?_)
      rw [show n + 1 - 1 = (n - 1) + 1 by omega, Nat.pow_succ, Nat.mul_comm]
      exact Nat.le_refl _
theorem KK_22 {a : AS} (hW : WF a) (hR : nR a ≠ 0) : (KK a).length ≤ 4019679 := by
  have hle := hW.le
  rw [KK_len_GT hW hR]
  have h := GT1_3 hW hR (nR a) 0 (cU a) (by omega) hR (Vd_root (hW.told hR))
  refine Nat.le_trans h (Nat.le_trans (Nat.pow_le_pow_right (by decide) (show nR a - 1 ≤ 3 by omega)) (by decide))
/-- no sum of weights is too long -/
theorem wts_lt {a : AS} (hW : WF a) (hR : nR a ≠ 0) : 0 < sml (wK a) (KK a) ∧ sml (wK a) (KK a) < 2 ^ 63 ∧ ∀ w b, sml (wK a) ((KK a).filter (sat a w b)) < 2 ^ 63 := by
  have hl := KK_22 hW hR
  have hb : ∀ p, p ∈ KK a → wK a p ≤ 2 ^ 40 := fun p hp => wK_40 hW hR hp
  refine ⟨?_, ?_, fun w b => ?_⟩
  · have hcT := (hW.told hR).2.2.2.2.2.2.2.2.2.1
    have hp := (KK_of hW hR hcT (Sam.rf _)).1
    obtain ⟨A, B, e⟩ := List.append_of_mem hp
    have hpos : 0 < wK a (pack (cel a)) := by
      obtain ⟨-, p2, -⟩ := KK_tab hW hR hp
      exact wgN_pos _ ((hW.told hR).sm p2 hW.le.1)
    rw [e, sml_app]
    show 0 < sml (wK a) A + (wK a (pack (cel a)) + sml (wK a) B)
    omega
  · have h := sml_bd (KK a) hb
    have : (KK a).length * 2 ^ 40 ≤ 4019679 * 2 ^ 40 := Nat.mul_le_mul_right _ hl
    omega
  · have h := sml_bd ((KK a).filter (sat a w b)) (fun p hp => hb p (List.mem_filter.mp hp).1)
    have h2 := List.length_filter_le (sat a w b) (KK a)
    have : ((KK a).filter (sat a w b)).length * 2 ^ 40 ≤ 4019679 * 2 ^ 40 := Nat.mul_le_mul_right _ (by omega)
    omega
section VL
variable {g : GX} {d : Nat} {ρ : Rs} {S : St} {a b : AS} {V : Nat → List Nat}
theorem sC_join {Q : Int64 → St → Prop} (hρ : Ok ρ) {w m n : Nat} (hw : w < 4) (hb : w = 3 → m < 2 ^ 63 ∧ n < 2 ^ 63) (h : Q (lN (jn w m n)) S) : CALLl g (d + 4) mX4_join [.int (nI w), .long (lN m), .long (lN n)] ρ ρ S Q := by
  refine eX4_join hρ ?_
  unfold jn at h
  rcases (show w = 0 ∨ w = 1 ∨ w = 2 ∨ w = 3 by omega) with rfl | rfl | rfl | rfl
  · rw [if_pos (show nI 0 = (0 : Int32) from rfl), lN_mul]
    rw [if_pos rfl] at h
    exact h
  · rw [if_neg (by decide), if_neg (by decide), lN_add]
    rw [if_neg (by decide), if_neg (by decide)] at h
    exact h
  · rw [if_neg (by decide), if_neg (by decide), lN_add]
    rw [if_neg (by decide), if_neg (by decide)] at h
    exact h
  · obtain ⟨b1, b2⟩ := hb rfl
    rw [if_neg (by decide), if_pos (show nI 3 = (3 : Int32) from rfl)]
    rw [if_neg (by decide), if_pos rfl] at h
    by_cases c : n < m
    · rw [if_pos ((lNlt b2 b1).mpr c)]
      rw [Nat.max_eq_left (by omega)] at h
      exact h
    · rw [if_neg (fun z => c ((lNlt b2 b1).mp z))]
      rw [Nat.max_eq_right (by omega)] at h
      exact h
def stt (w : Nat) : Nat := if w = 0 then 1 else 0
theorem sC_start {Q : Int64 → St → Prop} (hρ : Ok ρ) {w : Nat} (hw : w < 4) (h : Q (lN (stt w)) S) : CALLl g (d + 3) mX4_start [.int (nI w)] ρ ρ S Q := by
  refine eX4_start hρ ?_
  unfold stt at h
  by_cases c : w = 0
  · rw [if_pos c] at h
    rw [if_pos (show nI w = (0 : Int32) by rw [c]; rfl)]
    exact h
  · rw [if_neg c] at h
    rw [if_neg (show ¬ nI w = (0 : Int32) from fun z => c ((nI_eq (b := 0) (by omega) (by omega)).mp z))]
    exact h
theorem sC_valueOf {Q : Int64 → St → Prop} (hρ : Ok ρ) (hW : WF a) (hR : nR a ≠ 0) (hF : IFb a V S) {p w : Nat} (hp : p ∈ KK a) (hw : w < 4) (h : Q (lN (mea a w (unp p))) S) : CALLl g (d + 5) mX4_valueOf [.ref 54, .int (nI w), .long (lN p)] ρ ρ S Q := by
  have hle := hW.le
  obtain ⟨hD, hA, -⟩ := hF
  obtain ⟨cN, cL⟩ := hD.cap hW hR
  have hcapF := FA_cap hW hR
  have hp64 : p < 2 ^ 64 := (KK_mem.mp hp).1
  refine eX4_valueOf hρ (sC_start hρ hw ?_)
  have rows : ∀ n y u A B, n + y = nR a → V y = A ++ u :: B → p % 65536 ^ (4 - y) ∈ PT a (4 - y) y u → AW g ρ (QJ Q) (d + 3 + 2) mX4_valueOf 12 [(0, .ref 54), (1, .int (nI w)), (2, .long (lN p)), (4, .long (lN (meaN a w (unp p) y))), (6, .int (nI (off V y + A.length))), (7, .int (nI y))] [] ρ S := by
    intro n
    induction n with
    | zero =>
      intro y u A B hy e hm
      refine eX4_valueOf_12 hρ ?_
      rw [hD.1.1, if_pos (nI_le (by omega) (by omega)), show y = nR a by omega]
      exact h
    | succ n ih =>
      intro y u A B hy e hm
      have hyR : y < nR a := by omega
      have hu := (hD.mem (show y ≤ nR a by omega) e).1
      rw [show 4 - y = (3 - y) + 1 by omega] at hm
      obtain ⟨l, P, R, el, el2, hq', eq⟩ := mem_PT hu hm
      have tr := tail_ro p (show y < 4 by omega)
      rw [show 4 - y = (3 - y) + 1 by omega] at tr
      rw [tr.1] at el2
      rw [tr.2] at hq'
      have hlk := DG.lk_lt (a := a) hyR e
      have hPl : P.length < (lnk a y u).length := by rw [el, List.length_append, List.length_cons]; omega
      have hgl : (lnk a y u).getD P.length 0 = l := by rw [el]; exact getD_mid
      obtain ⟨k, A', B', l1, l2, l3, l4, l5⟩ := hD.link hyR e hPl
      rw [hgl] at l3 l5
      have hpt := l3.part hw
      refine eX4_valueOf_12 hρ ?_
      rw [hD.1.1, if_neg (nI_ge (by omega) (by omega))]
      refine sC_lineOf hρ hp64 (by omega) ?_
      rw [el2]
      refine sC_linkBy hρ hW hR hD hyR e el ?_
      rw [if_neg (by
        intro z
        have z2 := congrArg Int32.toInt z
        rw [nI_toInt (by omega)] at z2
        have : (-1 : Int32).toInt = -1 := rfl
        omega), nI_clamp (show lof a V y + LC a y A + P.length < 2 ^ 31 by omega), l1, nI_clamp (show k < 2 ^ 31 by omega), nI_clamp (show w < 2 ^ 31 by omega), hpt]
      refine ⟨vp_in_nI (by omega) (by omega), vp_in_nI (by omega) (by omega), vp_in_nI (by omega) (by omega), ?_⟩
      refine sC_join hρ hw (fun e3 => ?_) ⟨vp_in_nI (by omega) (by omega), ?_⟩
      · rw [e3]
        have := mea3_lt (a := a) (unp_lt p) y
        have := mrow3_lt (a := a) (y := y) (dg_lt l)
        exact ⟨by omega, by show mrow a 3 y (dg l) < _; omega⟩
      · rw [l4, nI_1]
        have er : mrow a w y (dg l) = mrow a w y (unp p y) := mrow_cg (fun x hx => by rw [← el2]; exact ro_dg (show y < 4 by omega) x hx)
        show AW g ρ (QJ Q) (d + 3 + 2) mX4_valueOf 12 [(0, .ref 54), (1, .int (nI w)), (2, .long (lN p)), (4, .long (lN (jn w (meaN a w (unp p) y) (mrow a w y (dg l))))), (6, .int (nI (off V (y + 1) + A'.length))), (7, .int (nI (y + 1)))] [] ρ S
        rw [er]
        exact ih (y + 1) (u - tk l) A' B' (by omega) l5 (by rw [show 4 - (y + 1) = 3 - y by omega]; exact hq')
  have h0 : V 0 = [] ++ cU a :: [] := hD.1.2.2.2.1
  have hm : p % 65536 ^ (4 - 0) = p := Nat.mod_eq_of_lt hp64
  exact rows (nR a) 0 (cU a) [] [] (by omega) h0 (by rw [hm, ← KK_PT hW hR]; exact hp)
theorem now_KK (hW : WF b) (c : nR b ≠ 0) (f2 : Smp a b) : pack (cel b) ∈ KK a ∧ unp (pack (cel b)) = cel b := by
  have hcT := (hW.told c).2.2.2.2.2.2.2.2.2.1
  have hp := KK_of hW c hcT (Sam.rf _)
  rw [KK_smp f2] at hp
  exact hp
theorem sC_weight {Q : Int64 → St → Prop} (hρ : Ok ρ) (hW : WF b) (hI : IB b S) (hF : nR b ≠ 0 → WF a ∧ Smp a b ∧ IFb a V S) (h0 : nR b = 0 → Q (-2) S) (h1 : nR b ≠ 0 → Q (lN (mea b 0 (cel b))) S) : CALLl g (d + 6) mX11_weight [.ref 16] ρ ρ S Q := by
  refine eX11_weight hρ (sC_isTold hρ hW hI ?_)
  by_cases c : nR b = 0
  · rw [if_pos c, if_pos rfl]; exact h0 c
  · rw [if_neg c, if_neg (by decide)]
    obtain ⟨f1, f2, f3⟩ := hF c
    obtain ⟨n1, n2⟩ := now_KK hW c f2
    rw [hI.2.2.2.2.2.2.2.2.2.2.2.1]
    have h2 := h1 c
    rw [mea_smp f2, ← n2] at h2
    exact sC_valueOf (w := 0) hρ f1 (by rw [← f2.1]; exact c) f3 n1 (by omega) h2
theorem sC_hasStat {Q : Int32 → St → Prop} (hρ : Ok ρ) (hW : WF b) (hI : IB b S) {x1 : Int32} (h0 : ¬ (nR b ≠ 0 ∧ vp_in x1 4) → Q 0 S) (h1 : nR b ≠ 0 → vp_in x1 4 → Q 1 S) : CALLi g (d + 4) mX11_hasStatistic [.ref 16, .int x1] ρ ρ S Q := by
  refine eX11_hasStatistic hρ (sC_isTold hρ hW hI ?_)
  by_cases c : nR b = 0
  · rw [if_pos c, if_pos rfl]; exact h0 (fun z => z.1 c)
  · rw [if_neg c, if_neg (by decide)]
    by_cases c3 : vp_in x1 4
    · obtain ⟨k1, k2⟩ := (vlu (by omega)).mp c3
      rw [if_neg k1, if_neg (show ¬ (4 : Int32) ≤ x1 from k2)]
      exact h1 c c3
    · have h2 := h0 (fun z => c3 z.2)
      by_cases k1 : x1 < 0
      · rw [if_pos k1]; exact h2
      · rw [if_neg k1, if_pos (show (4 : Int32) ≤ x1 from Classical.byContradiction fun k2 => c3 ((vlu (by omega)).mpr ⟨k1, k2⟩))]
        exact h2
theorem sC_statistic {Q : Int64 → St → Prop} (hρ : Ok ρ) (hW : WF b) (hI : IB b S) (hF : nR b ≠ 0 → WF a ∧ Smp a b ∧ IFb a V S) {x1 : Int32} (h0 : ¬ (nR b ≠ 0 ∧ vp_in x1 4) → Q (-2) S) (h1 : nR b ≠ 0 → vp_in x1 4 → Q (lN (mea b x1.toNatClampNeg (cel b))) S) : CALLl g (d + 6) mX11_statistic [.ref 16, .int x1] ρ ρ S Q := by
  refine eX11_statistic hρ (sC_hasStat hρ hW hI (fun c => ?_) (fun c c1 => ?_))
  · rw [if_pos rfl]; exact h0 c
  · rw [if_neg (by decide)]
    obtain ⟨f1, f2, f3⟩ := hF c
    obtain ⟨n1, n2⟩ := now_KK hW c f2
    rw [hI.2.2.2.2.2.2.2.2.2.2.2.1]
    have h2 := h1 c c1
    rw [mea_smp f2, ← n2] at h2
    rw [vin_eq c1 (by omega)]
    exact sC_valueOf hρ f1 (by rw [← f2.1]; exact c) f3 n1 (vin_cl c1) h2
theorem sC_fixed {Q : Int32 → St → Prop} (hρ : Ok ρ) (hW : WF b) (hI : IB b S) (hF : nR b ≠ 0 → WF a ∧ Smp a b ∧ IFb a V S) (h0 : nR b = 0 → Q (-2) S) (h1 : nR b ≠ 0 → Q (nI (fixV b (nR b * nC b))) S) : CALLi g (d + 6) mX11_fixed [.ref 16] ρ ρ S Q := by
  have hl := hW.le
  have e2 := mul44 hl.1 hl.2.1
  refine eX11_fixed hρ (sC_isTold hρ hW hI ?_)
  by_cases c : nR b = 0
  · rw [if_pos c, if_pos rfl]; exact h0 c
  · rw [if_neg c, if_neg (by decide)]
    obtain ⟨f1, f2, f3⟩ := hF c
    have hRa : nR a ≠ 0 := by rw [← f2.1]; exact c
    have hC : 2 ≤ nC b := (hW.told c).2.2.1
    have hfin := h1 c
    have e0 : S.1 21 0 = nI (nR b) := hI.2.2.2.2.1
    have e1 : S.1 21 1 = nI (nC b) := hI.2.2.2.2.2.1
    have lb : ∀ k, leaV b k ≤ 20 ∧ mosV b k ≤ 20 := by
      intro k
      unfold leaV mosV
      generalize seeK b k = f
      refine ⟨?_, ?_⟩
      · have : ∀ n v, fnd f n v ≤ v + n := by
          intro n
          induction n with
          | zero => intro v; exact Nat.le_refl _
          | succ n ih =>
            intro v
            unfold fnd
            split
            · have := ih (v + 1); omega
            · omega
        have := this 20 0
        omega
      · have : ∀ v, hfd f v ≤ v := by
          intro v
          induction v with
          | zero => exact Nat.le_refl _
          | succ v ih =>
            unfold hfd
            split
            · omega
            · omega
        exact this 20
    have rows : ∀ n y, n + y = nR b → AW g ρ (QI Q) (d + 5 + 1) mX11_fixed 17 [(0, .ref 16), (1, .int (nI (fixV b (y * nC b)))), (2, .int (nI y))] [] ρ S := by
      intro n
      induction n with
      | zero =>
        intro y hy
        refine eX11_fixed_17 hρ ?_
        rw [e0, if_pos (nI_le (by omega) (by omega)), show y = nR b by omega]
        exact hfin
      | succ n ih =>
        intro y hy
        refine eX11_fixed_17 hρ ?_
        rw [e0, if_neg (nI_ge (by omega) (by omega))]
        have cols : ∀ m x, m + x = nC b → AW g ρ (QI Q) (d + 5 + 1) mX11_fixed 30 [(0, .ref 16), (1, .int (nI (fixV b (y * nC b + x)))), (2, .int (nI y)), (3, .int (nI x))] [] ρ S := by
          intro m
          induction m with
          | zero =>
            intro x hx
            refine eX11_fixed_30 hρ ?_
            rw [e1, if_pos (nI_le (by omega) (by omega)), nI_1, show x = nC b by omega]
            have := ih (y + 1) (by omega)
            rw [Nat.succ_mul] at this
            exact this
          | succ m ihm =>
            intro x hx
            have ihk := ihm (x + 1) (by omega)
            have hk := idx_lt (show y < nR b by omega) (show x < nC b by omega)
            have kd : (y * nC b + x) / nC b = y := by rw [Nat.mul_comm, Nat.mul_add_div (by omega), Nat.div_eq_of_lt (by omega), Nat.add_zero]
            have km : (y * nC b + x) % nC b = x := by rw [Nat.mul_comm, Nat.mul_add_mod, Nat.mod_eq_of_lt (by omega)]
            have ef : fixV b (y * nC b + (x + 1)) = fixV b (y * nC b + x) ||| if hol b y x = false ∧ leaV b (y * nC b + x) = mosV b (y * nC b + x) then 2 ^ (y * nC b + x) else 0 := by
              show fixV b (y * nC b + x + 1) = _
              rw [fixV, kd, km]
            have no : ¬ (hol b y x = false ∧ leaV b (y * nC b + x) = mosV b (y * nC b + x)) → AW g ρ (QI Q) (d + 5 + 1) mX11_fixed 30 [(0, .ref 16), (1, .int (nI (fixV b (y * nC b + x)))), (2, .int (nI y)), (3, .int (nI x + 1))] [] ρ S := by
              intro z
              rw [ef, if_neg z, Nat.or_zero] at ihk
              rw [nI_1]
              exact ihk
            refine eX11_fixed_30 hρ ?_
            rw [e1, if_neg (nI_ge (by omega) (by omega))]
            refine sC_isHole hρ hI (show y < 4 by omega) (show x < 4 by omega) ?_
            cases ch : hol b y x with
            | true =>
              rw [if_neg (by decide)]
              exact no (fun z => by rw [ch] at z; exact absurd z.1 (by decide))
            | false =>
              rw [if_pos (show (if false = true then (1 : Int32) else 0) = 0 from rfl)]
              have hya : y < nR a := by rw [← f2.1]; omega
              have hxa : x < nC a := by rw [← f2.2.1]; omega
              refine sC_lowestOf hρ f1 hRa f3 hya hxa (sC_highestOf hρ f1 hRa f3 hya hxa ?_)
              rw [← f2.2.1, ← leaV_smp f2, ← mosV_smp f2]
              have b1 := (lb (y * nC b + x)).1
              have b2 := (lb (y * nC b + x)).2
              rw [ch] at ef no
              generalize leaV b (y * nC b + x) = lo at b1 ef no
              generalize mosV b (y * nC b + x) = hi at b2 ef no
              by_cases ce : lo = hi
              · rw [if_pos (by rw [ce]), e1, pk_mul, nI_add, shl1 (by omega), fa_or, nI_1]
                rw [if_pos ⟨rfl, ce⟩] at ef
                rw [← ef]
                exact ihk
              · rw [if_neg (by rw [nI_eq (by omega) (by omega)]; exact ce)]
                exact no (fun z => ce z.2)
        exact cols (nC b) 0 (by omega)
    have st := rows (nR b) 0 (by omega)
    rw [Nat.zero_mul] at st
    exact st
end VL
