-- THE BOUNDS OF ALL NODES; THE FIRST OF THE HEAVIEST
theorem DG.fr {a : AS} {V : Nat → List Nat} {S S' : St} (h : DG a V S) (h1 : ∀ k, FFb k → S'.1 k = S.1 k) (h2 : ∀ k, FFb k → S'.2 k = S.2 k) : DG a V S' := by
  have q : ∀ k, 31 ≤ k → k ≤ 53 → S'.1 k = S.1 k := fun k a b => h1 k ⟨a, b⟩
  have r : ∀ k, 31 ≤ k → k ≤ 53 → S'.2 k = S.2 k := fun k a b => h2 k ⟨a, b⟩
  unfold DG DI NS NP LO FIs FI fillAt at h ⊢
  rw [q 31 (by omega) (by omega), q 32 (by omega) (by omega), q 33 (by omega) (by omega), q 34 (by omega) (by omega), q 35 (by omega) (by omega), q 36 (by omega) (by omega), q 42 (by omega) (by omega), q 43 (by omega) (by omega), q 44 (by omega) (by omega), q 45 (by omega) (by omega), q 46 (by omega) (by omega), q 50 (by omega) (by omega), q 51 (by omega) (by omega), r 32 (by omega) (by omega), r 38 (by omega) (by omega), r 39 (by omega) (by omega), r 40 (by omega) (by omega), r 41 (by omega) (by omega)]
  exact h
theorem IFb.fr {a : AS} {V : Nat → List Nat} {S S' : St} (h : IFb a V S) (h1 : ∀ k, FFb k → S'.1 k = S.1 k) (h2 : ∀ k, FFb k → S'.2 k = S.2 k) : IFb a V S' := by
  refine ⟨h.1.fr h1 h2, fun j A u B hj e hk => ?_, fun y x v hy hx hv => ?_⟩
  · rw [h2 47 (by unfold FFb; omega), h2 48 (by unfold FFb; omega)]
    exact h.2.1 j A u B hj e hk
  · rw [h2 53 (by unfold FFb; omega)]
    exact h.2.2 y x v hy hx hv
theorem BDn.of {a : AS} {V : Nat → List Nat} {w n : Nat} {S S' : St} (h : BDn a V w n S) (h5 : S'.2 (56 + w) = S.2 (56 + w)) (h6 : S'.2 (61 + w) = S.2 (61 + w)) : BDn a V w n S' := by
  unfold BDn at h ⊢
  rw [h5, h6]
  exact h
section BF
variable {g : GX} {d : Nat} {ρ : Rs} {S : St} {a : AS} {V : Nat → List Nat}
theorem sC_bound {Q : St → Prop} (hρ : Ok ρ) (hF : ∀ k ∈ ([65] : List Nat), gF g k) (hF5 : ∀ i, i < 4 → gF g (56 + i)) (hF6 : ∀ i, i < 4 → gF g (61 + i)) (hW : WF a) (hR : nR a ≠ 0) (hI : IFb a V S) {w : Nat} (hw : w < 4) (hB : S.1 65 w = 0 ∨ S.1 65 w = 1 ∧ BDn a V w 0 S)
    (h : ∀ S', BDn a V w 0 S' → S'.1 65 w = 1 → (∀ k i, ¬ (k = 65 ∧ i = w) → S'.1 k i = S.1 k i) → (∀ k, k ≠ 56 + w → k ≠ 61 + w → S'.2 k = S.2 k) → Q S') : CALLv g (d + 6) mX4_bound [.ref 54, .int (nI w)] ρ ρ S Q := by
  have hle := hW.le
  obtain ⟨hD, hA, -⟩ := hI
  obtain ⟨cN, cL⟩ := hD.cap hW hR
  refine eX4_bound hρ hF ?_
  rw [nI_clamp (show w < 2 ^ 31 by omega)]
  have vw : vp_in (nI w) 4 := vp_in_nI hw (by omega)
  refine ⟨vw, ?_⟩
  rcases hB with hB | ⟨hB1, hB2⟩
  · rw [if_pos hB, hD.1.2.1]
    refine ⟨vw, ?_⟩
    have key : ∀ n S1, n ≤ off V (nR a + 1) → BDn a V w n S1 → S1.1 65 w = 1 → (∀ k i, ¬ (k = 65 ∧ i = w) → S1.1 k i = S.1 k i) → (∀ k, k ≠ 56 + w → k ≠ 61 + w → S1.2 k = S.2 k) → AW g ρ (QV Q) (d + 3 + 3) mX4_bound 31 [(0, .ref 54), (1, .int (nI w)), (2, .int (nI n - 1))] [] ρ S1 := by
      intro n
      induction n with
      | zero =>
        intro S1 hn k1 k2 k3 k4
        refine eX4_bound_31 hρ hF5 hF6 ?_
        rw [if_pos (by decide)]
        exact h S1 k1 k2 k3 k4
      | succ n ih =>
        intro S1 hn k1 k2 k3 k4
        have k3' : ∀ k, k ≠ 65 → S1.1 k = S.1 k := fun k hk => funext fun i => k3 k i (fun z => hk z.1)
        have hD1 : DG a V S1 := hD.fr (fun k hk => k3' k (by unfold FFb at hk; omega)) (fun k hk => k4 k (by unfold FFb at hk; omega) (by unfold FFb at hk; omega))
        have hA1 : AHd a V 0 S1 := fun j A u B hj e hk => by rw [k4 47 (by omega) (by omega), k4 48 (by omega) (by omega)]; exact hA j A u B hj e hk
        rw [show nI (n + 1) - 1 = nI n from pk_sub (b := 1) (by omega)]
        obtain ⟨j, A, u, B, hj, e, ek⟩ := node_dec V (nR a + 1) n (by omega)
        have hnl : n < 480 := by omega
        have hoR := off_mono V (i := nR a) (nR a + 1) (by omega)
        have vn : vp_in (nI n) 480 := vp_in_nI hnl (by omega)
        refine eX4_bound_31 hρ hF5 hF6 ?_
        rw [if_neg (show ¬ nI n < (0 : Int32) from nI_nlt (b := 0) (by omega) (by omega)), hD1.1.1, nI_clamp (show nR a < 2 ^ 31 by omega), hD1.1.2.2.2.2.2.1 (nR a) (Nat.le_refl _), show nI n + (-1) = nI n - 1 from (Int32.sub_eq_add_neg _ _).symm]
        refine ⟨vp_in_nI (by omega) (by omega), nI_nlt (b := 0) (by omega) (by omega), nI_nlt (a := 480) (by omega) (by omega), ?_⟩
        by_cases cR : j = nR a
        · subst cR
          rw [if_pos (show nI (off V (nR a)) ≤ nI n from nI_le (by omega) (by omega))]
          refine sC_start hρ hw ⟨vw, vn, sC_start hρ hw ⟨vw, vn, ?_⟩⟩
          rw [nI_clamp (show w < 2 ^ 31 by omega), nI_clamp (show n < 2 ^ 31 by omega)]
          refine ih _ (by omega) (fun j' A' u' B' hj' e' hk hne => ?_) k2 k3 (fun k c1 c2 => by rw [setL_ne _ _ _ c2, setL_ne _ _ _ c1]; exact k4 k c1 c2)
          by_cases c : off V j' + A'.length = n
          · obtain ⟨rfl, rfl⟩ := node_un e' e (by omega)
            rw [PT_end hW hR _ _ _ (Nat.le_refl _)]
            have et : ∀ n y, nR a ≤ y → y + n ≤ 4 → tm a w n y 0 = stt w := by
              intro n
              induction n with
              | zero => intro y _ _; rfl
              | succ n ihn =>
                intro y hy hy4
                show jn w (mrow a w y (dg (0 / 65536 ^ n))) (tm a w n (y + 1) (0 % 65536 ^ n)) = _
                rw [Nat.zero_div, Nat.zero_mod, ihn (y + 1) (by omega) (by omega), (jn_e hw _).1]
                exact mrow_z (fun x => by unfold dg; split <;> simp)
            have e0 := et (4 - nR a) (nR a) (Nat.le_refl _) (by omega)
            refine ⟨stt w, stt w, ⟨⟨0, by simp, e0⟩, fun q hq => by rw [List.mem_singleton.mp hq, e0]; exact Nat.le_refl _⟩, ⟨⟨0, by simp, e0⟩, fun q hq => by rw [List.mem_singleton.mp hq, e0]; exact Nat.le_refl _⟩, ?_, ?_⟩
            · rw [setL_ne _ _ _ (by omega), setL_at, if_pos ⟨rfl, c⟩]
            · rw [setL_at, if_pos ⟨rfl, c⟩]
          · obtain ⟨lo, hi, q1, q2, q3, q4⟩ := k1 j' A' u' B' hj' e' (by omega) hne
            refine ⟨lo, hi, q1, q2, ?_, ?_⟩
            · rw [setL_ne _ _ _ (by omega), setL_at, if_neg (fun z => c z.2)]; exact q3
            · rw [setL_at, if_neg (fun z => c z.2), setL_ne _ _ _ (by omega)]; exact q4
        · have hj2 : j < nR a := by omega
          have hnR := DG.node_lt (a := a) hj2 e
          rw [if_neg (show ¬ nI (off V (nR a)) ≤ nI n from nI_ge (by omega) (by omega)), ek]
          rw [ek] at k1
          refine sC_boundNode hρ hF5 hF6 hW hR hD1 hA1 hw hj2 e k1 (fun S2 m1 m2 m3 => ?_)
          rw [← ek] at m2 m3 k1 ⊢
          refine ih S2 (by omega) (fun j' A' u' B' hj' e' hk hne => ?_) (by rw [m1]; exact k2) (fun k i hk => by rw [m1]; exact k3 k i hk) (fun k c1 c2 => ?_)
          · by_cases c : off V j' + A'.length = n
            · obtain ⟨rfl, rfl⟩ := node_un e' e (by omega)
              obtain ⟨lo, hi, q1, q2, q3, q4⟩ := m3 hne
              refine ⟨lo, hi, q1, q2, ?_, ?_⟩
              · rw [c]; exact q3
              · rw [c]; exact q4
            · obtain ⟨lo, hi, q1, q2, q3, q4⟩ := k1 j' A' u' B' hj' e' (by omega) hne
              refine ⟨lo, hi, q1, q2, ?_, ?_⟩
              · rw [m2 _ _ (fun z => c z.2)]; exact q3
              · rw [m2 _ _ (fun z => c z.2)]; exact q4
          · rw [← k4 k c1 c2]
            funext i
            exact m2 k i (fun z => by omega)
    refine key (off V (nR a + 1)) _ (Nat.le_refl _) (fun j A u B hj e hk _ => ?_) (by rw [setI_at, if_pos ⟨rfl, rfl⟩]) (fun k i hk => by rw [setI_at, if_neg hk]) (fun _ _ _ => rfl)
    have := DG.node_lt (a := a) (show j < nR a + 1 by omega) e
    omega
  · rw [if_neg (by rw [hB1]; decide)]
    exact h S hB2 hB1 (fun _ _ _ => rfl) (fun _ _ _ => rfl)
/-- the first that has a value -/
def FP (f : Nat → Nat) (L : List Nat) (v i : Nat) : Prop := i < L.length ∧ f (L.getD i 0) = v ∧ ∀ j, j < i → f (L.getD j 0) ≠ v
theorem FP_app {f : Nat → Nat} {L M N : List Nat} {v i : Nat} (hL : ∀ q, q ∈ L → f q ≠ v) (h : FP f M v i) : FP f (L ++ (M ++ N)) v (L.length + i) := by
  obtain ⟨h1, h2, h3⟩ := h
  have g : ∀ k, k < M.length → (L ++ (M ++ N)).getD (L.length + k) 0 = M.getD k 0 := fun k hk => by
    rw [List.getD_eq_getElem?_getD, List.getElem?_append_right (by omega), Nat.add_sub_cancel_left, List.getElem?_append_left hk, List.getD_eq_getElem?_getD]
  refine ⟨by rw [List.length_append, List.length_append]; omega, by rw [g i h1]; exact h2, fun j hj => ?_⟩
  by_cases c : j < L.length
  · rw [getD_l c]
    refine hL _ ?_
    rw [List.getD_eq_getElem?_getD, List.getElem?_eq_getElem c]
    exact List.getElem_mem c
  · rw [show j = L.length + (j - L.length) by omega, g _ (by omega)]
    exact h3 _ (by omega)
theorem FP_map {f f' k : Nat → Nat} {L : List Nat} {v v' i : Nat} (he : ∀ q, q ∈ L → (f (k q) = v ↔ f' q = v')) (h : FP f' L v' i) : FP f (L.map k) v i := by
  obtain ⟨h1, h2, h3⟩ := h
  have g : ∀ j, j < L.length → (L.map k).getD j 0 = k (L.getD j 0) ∧ L.getD j 0 ∈ L := fun j hj => by
    rw [List.getD_eq_getElem?_getD, List.getElem?_map, List.getD_eq_getElem?_getD, List.getElem?_eq_getElem hj]
    exact ⟨rfl, List.getElem_mem hj⟩
  refine ⟨by rw [List.length_map]; exact h1, ?_, fun j hj => ?_⟩
  · rw [(g i h1).1]
    exact (he _ (g i h1).2).mpr h2
  · rw [(g j (by omega)).1]
    intro z
    exact h3 j hj ((he _ (g j (by omega)).2).mp z)
/-- what the search keeps to: the greatest or the least -/
def Ext (b : Bool) (f : Nat → Nat) (L : List Nat) (v : Nat) : Prop := if b then HiP f L v else LoP f L v
theorem Ext.at {b : Bool} {f : Nat → Nat} {L : List Nat} {v : Nat} (h : Ext b f L v) : ∃ q, q ∈ L ∧ f q = v := by
  cases b with
  | true => exact (show HiP f L v from h).1
  | false => exact (show LoP f L v from h).1
theorem Ext.blk {b : Bool} {a : AS} {w n y u l v : Nat} (hs : u - tk l < topU) (h : Ext b (tm a w n (y + 1)) (PT a n (y + 1) (u - tk l)) v) : Ext b (tm a w (n + 1) y) (blkT a n y u l) (jn w (mrow a w y (dg l)) v) := by
  cases b with
  | true => exact blk_hi hs (show HiP _ _ v from h)
  | false => exact blk_lo hs (show LoP _ _ v from h)
theorem Ext.sub {b : Bool} {f : Nat → Nat} {L M : List Nat} {v m : Nat} (h : Ext b f L v) (k : Ext b f M m) (hs : ∀ q, q ∈ M → q ∈ L) : (∃ q, q ∈ M ∧ f q = v) ↔ m = v := by
  cases b with
  | true =>
    have h : HiP f L v := h
    have k : HiP f M m := k
    obtain ⟨r, r1, r2⟩ := k.1
    constructor
    · rintro ⟨q, q1, q2⟩
      have := k.2 q q1
      have := h.2 r (hs r r1)
      omega
    · intro z
      exact ⟨r, r1, by rw [r2, z]⟩
  | false =>
    have h : LoP f L v := h
    have k : LoP f M m := k
    obtain ⟨r, r1, r2⟩ := k.1
    constructor
    · rintro ⟨q, q1, q2⟩
      have := k.2 q q1
      have := h.2 r (hs r r1)
      omega
    · intro z
      exact ⟨r, r1, by rw [r2, z]⟩
theorem sC_firstWith {Q : Int64 → St → Prop} (hρ : Ok ρ) (hW : WF a) (hR : nR a ≠ 0) (hI : IFb a V S) {b : Bool} {k1 : Nat} (hk1 : k1 = 60 ∧ b = true ∨ k1 = 55 ∧ b = false) (hB : BDn a V 0 0 S) (h : ∀ v i, Ext b (tm a 0 4 0) (KK a) v → FP (tm a 0 4 0) (KK a) v i → Q (lN i) S) : CALLl g (d + 3) mX4_firstWith [.ref 54, .ref k1] ρ ρ S Q := by
  have hle := hW.le
  have hT := hW.told hR
  obtain ⟨hD, hA, -⟩ := hI
  obtain ⟨cN, cL⟩ := hD.cap hW hR
  have hcapF := FA_cap hW hR
  have hsh : shp ρ k1 = .inr (3, 480) := by
    rcases hk1 with ⟨rfl, -⟩ | ⟨rfl, -⟩ <;> (unfold shp; rw [if_pos (by decide)]; rfl)
  have h16 : 16 ≤ k1 := by rcases hk1 with ⟨rfl, -⟩ | ⟨rfl, -⟩ <;> omega
  have hn1 : k1 < rn ρ := by rcases hk1 with ⟨rfl, -⟩ | ⟨rfl, -⟩ <;> exact okn hρ (by decide)
  have hE : ∀ j A u B, j ≤ nR a → V j = A ++ u :: B → PT a (4 - j) j u ≠ [] → ∃ v, Ext b (tm a 0 (4 - j) j) (PT a (4 - j) j u) v ∧ S.2 (k1 + 1) (off V j + A.length) = lN v := by
    intro j A u B hj e hne
    obtain ⟨lo, hi, q1, q2, q3, q4⟩ := hB j A u B hj e (Nat.zero_le _) hne
    rcases hk1 with ⟨rfl, rfl⟩ | ⟨rfl, rfl⟩
    · exact ⟨hi, q2, q4⟩
    · exact ⟨lo, q1, q3⟩
  refine eX4_firstWith hρ h16 hn1 hsh ?_
  have rows : ∀ n y bf u A B v, n + y = nR a → V y = A ++ u :: B → Ext b (tm a 0 (4 - y) y) (PT a (4 - y) y u) v → S.2 (k1 + 1) (off V y + A.length) = lN v → (∀ i, FP (tm a 0 (4 - y) y) (PT a (4 - y) y u) v i → Q (lN (bf + i)) S) → AW g ρ (QJ Q) (d + 3) mX4_firstWith 8 [(0, .ref 54), (1, .ref k1), (2, .long (lN bf)), (4, .int (nI (off V y + A.length))), (5, .int (nI y))] [] ρ S := by
    intro n
    induction n with
    | zero =>
      intro y bf u A B v hy e hx hs hq
      refine eX4_firstWith_8 hρ h16 hn1 hsh ?_
      rw [hD.1.1, if_pos (nI_le (by omega) (by omega))]
      have := hq 0 ?_
      · exact this
      · obtain ⟨q, q1, q2⟩ := hx.at
        rw [PT_end hW hR _ y u (by omega)] at q1 ⊢
        rw [List.mem_singleton.mp q1] at q2
        exact ⟨by show 0 < 1; omega, q2, fun j hj => absurd hj (by omega)⟩
    | succ n ih =>
      intro y bf u A B v hy e hx hs hq
      have hyR : y < nR a := by omega
      have hu := (hD.mem (show y ≤ nR a by omega) e).1
      obtain ⟨f1, f2⟩ := hD.first hyR e
      have hlk := DG.lk_lt (a := a) hyR e
      have hnl := DG.node_lt (a := a) (show y < nR a + 1 by omega) e
      have e4 : 4 - y = (3 - y) + 1 := by omega
      have e41 : 4 - (y + 1) = 3 - y := by omega
      have hyn : n + (y + 1) = nR a := by omega
      rw [e4] at hx hq
      have hvb : v < 2 ^ 62 := by
        obtain ⟨q, q1, q2⟩ := hx.at
        rw [← q2]; exact tm_lt hT hu (by omega) q1
      refine eX4_firstWith_8 hρ h16 hn1 hsh ?_
      rw [hD.1.1, if_neg (nI_ge (by omega) (by omega)), nI_1 (off V y + A.length), nI_clamp (show off V y + A.length + 1 < 2 ^ 31 by omega), nI_clamp (show off V y + A.length < 2 ^ 31 by omega), f1, f2, hs]
      refine ⟨vp_in_nI (by omega) (by omega), vp_in_nI (by omega) (by omega), nI_nlt (b := 0) (by omega) (by omega), nI_nlt (a := 4800) (by omega) (by omega), vp_in_nI (by omega) (by omega), nI_nlt (b := 0) (by omega) (by omega), nI_nlt (a := 4800) (by omega) (by omega), ?_⟩
      have loop : ∀ (R P : List Nat), lnk a y u = P ++ R → (∀ q, q ∈ P.flatMap (blkT a (3 - y) y u) → tm a 0 (3 - y + 1) y q ≠ v) → AW g ρ (QJ Q) (d + 3) mX4_firstWith 60 [(0, .ref 54), (1, .ref k1), (2, .long (lN (bf + (P.flatMap (blkT a (3 - y) y u)).length))), (5, .int (nI y)), (6, .long (lN v)), (8, .int (nI (off V y + A.length))), (9, .int (nI (lof a V y + LC a y A + (lnk a y u).length))), (10, .int (nI (lof a V y + LC a y A + P.length)))] [] ρ S := by
        intro R
        induction R with
        | nil =>
          intro P el hno
          rw [List.append_nil] at el
          obtain ⟨q, q1, q2⟩ := hx.at
          rw [PT_fm, el] at q1
          exact absurd q2 (hno q q1)
        | cons l R ihR =>
          intro P el hno
          have hPl : P.length < (lnk a y u).length := by rw [el, List.length_append, List.length_cons]; omega
          have hgl : (lnk a y u).getD P.length 0 = l := by rw [el]; exact getD_mid
          have hlm : l ∈ lnk a y u := by rw [el]; simp
          have hs2 := (fts_sub hu (lnk_mem.mp hlm).2).2.1
          obtain ⟨k, A', B', l1, l2, l3, l4, l5⟩ := hD.link hyR e hPl
          rw [hgl] at l3 l5
          have hpt2 : S.2 38 k = lN (mrow a 0 y (dg l)) := l3.part (w := 0) (by omega)
          have hto := DG.node_lt (a := a) (show y + 1 < nR a + 1 by omega) l5
          have ha := (hA (y + 1) A' _ B' (by omega) l5 (Nat.zero_le _)).1
          rw [show 4 - (y + 1) = 3 - y by omega] at ha
          have hG := GT1_lt (a := a) (n := 3 - y) (y := y + 1) (by omega) hs2
          have hlen := PT_len (a := a) (n := 3 - y) (y := y + 1) hs2
          have hbl : (blkT a (3 - y) y u l).length = GT a (fun _ _ => 1) (3 - y) (y + 1) (u - tk l) := by
            unfold blkT
            rw [List.length_map, hlen]
          have ez : lN (GT a (fun _ _ => 1) (3 - y) (y + 1) (u - tk l)) ≤ (0 : Int64) ↔ GT a (fun _ _ => 1) (3 - y) (y + 1) (u - tk l) ≤ 0 := lNle (n := 0) (by omega) (by omega)
          have v7 : vp_in (nI (lof a V y + LC a y A + P.length)) 4800 := vp_in_nI (by omega) (by omega)
          have vt : vp_in (nI (off V (y + 1) + A'.length)) 480 := vp_in_nI (by omega) (by omega)
          have vk : vp_in (nI k) 320 := vp_in_nI (by omega) (by omega)
          have vn : vp_in (nI (off V y + A.length)) 480 := vp_in_nI (by omega) (by omega)
          have efm : (P ++ [l]).flatMap (blkT a (3 - y) y u) = P.flatMap (blkT a (3 - y) y u) ++ blkT a (3 - y) y u l := by
            rw [List.flatMap_append, List.flatMap_cons, List.flatMap_nil, List.append_nil]
          have go : (∀ q, q ∈ blkT a (3 - y) y u l → tm a 0 (3 - y + 1) y q ≠ v) → AW g ρ (QJ Q) (d + 3) mX4_firstWith 60 [(0, .ref 54), (1, .ref k1), (2, .long (lN (bf + (P.flatMap (blkT a (3 - y) y u)).length) + lN (GT a (fun _ _ => 1) (3 - y) (y + 1) (u - tk l)))), (5, .int (nI y)), (6, .long (lN v)), (8, .int (nI (off V y + A.length))), (9, .int (nI (lof a V y + LC a y A + (lnk a y u).length))), (10, .int (nI (lof a V y + LC a y A + P.length) + 1))] [] ρ S := by
            intro hb
            have := ihR (P ++ [l]) (by rw [el, List.append_assoc]; rfl) (fun q hq2 => by
              rw [efm] at hq2
              rcases List.mem_append.mp hq2 with z | z
              · exact hno q z
              · exact hb q z)
            rw [efm, List.length_append, hbl, len1] at this
            rw [lN_add, nI_1, Nat.add_assoc]
            exact this
          refine eX4_firstWith_60 hρ h16 hn1 hsh ?_
          rw [if_neg (nI_ge (by omega) (by omega)), nI_clamp (show lof a V y + LC a y A + P.length < 2 ^ 31 by omega), l1, l4, nI_clamp (show off V (y + 1) + A'.length < 2 ^ 31 by omega), nI_clamp (show k < 2 ^ 31 by omega), ha]
          refine ⟨v7, v7, vk, vt, vt, ?_⟩
          by_cases c : GT a (fun _ _ => 1) (3 - y) (y + 1) (u - tk l) = 0
          · rw [if_pos (ez.mpr (by omega))]
            refine ⟨vt, go (fun q hq2 => ?_)⟩
            rw [List.length_eq_zero_iff.mp (hbl.trans c)] at hq2
            exact absurd hq2 (by simp)
          · rw [if_neg (fun z => c (by have := ez.mp z; omega))]
            have hne2 : PT a (4 - (y + 1)) (y + 1) (u - tk l) ≠ [] := fun z => by
              rw [show 4 - (y + 1) = 3 - y by omega] at z
              rw [z] at hlen
              exact c hlen.symm
            obtain ⟨v', x1, x2⟩ := hE (y + 1) A' _ B' (by omega) l5 hne2
            have x1' := x1
            rw [show 4 - (y + 1) = 3 - y by omega] at x1'
            have xb := x1'.blk (y := y) hs2
            have hsubs : ∀ q, q ∈ blkT a (3 - y) y u l → q ∈ PT a (3 - y + 1) y u := fun q hq2 => by
              rw [PT_fm]
              exact List.mem_flatMap.mpr ⟨l, hlm, hq2⟩
            have hjb : jn 0 (mrow a 0 y (dg l)) v' < 2 ^ 62 := by
              obtain ⟨q, q1, q2⟩ := xb.at
              rw [← q2]; exact tm_lt hT hu (by omega) (hsubs q q1)
            have ej : jn 0 (mrow a 0 y (dg l)) v' = mrow a 0 y (dg l) * v' := rfl
            rw [hpt2, x2, lN_mul, ← ej]
            by_cases ce : jn 0 (mrow a 0 y (dg l)) v' = v
            · rw [if_pos (by rw [ce]), nI_1]
              refine ih (y + 1) (bf + (P.flatMap (blkT a (3 - y) y u)).length) (u - tk l) A' B' v' hyn l5 x1 x2 (fun i hi => ?_)
              rw [e41] at hi
              have hpos : 0 < mrow a 0 y (dg l) := by
                have hd := LL_dg (lnk_mem.mp hlm).1
                exact rowW_pos (f := dg l) (by rw [hd.2.1]; exact hT.sums.1 y)
              have fb : FP (tm a 0 (3 - y + 1) y) (blkT a (3 - y) y u l) v i := by
                unfold blkT
                refine FP_map (fun q hq2 => ?_) hi
                rw [tm_s (PT_lt hs2 hq2)]
                show mrow a 0 y (dg l) * _ = v ↔ _
                rw [← ce]
                constructor
                · intro z
                  exact Nat.eq_of_mul_eq_mul_left hpos z
                · intro z
                  rw [z]
                  rfl
              have ff := FP_app (N := R.flatMap (blkT a (3 - y) y u)) hno fb
              have eL : P.flatMap (blkT a (3 - y) y u) ++ (blkT a (3 - y) y u l ++ R.flatMap (blkT a (3 - y) y u)) = PT a (3 - y + 1) y u := by
                rw [PT_fm, el, List.flatMap_append, List.flatMap_cons]
              rw [eL] at ff
              have := hq _ ff
              rw [← Nat.add_assoc] at this
              exact this
            · rw [if_neg (by rw [lNeq (by omega) (by omega)]; exact ce)]
              exact ⟨vt, go (fun q hq2 z => ce ((hx.sub xb hsubs).mp ⟨q, hq2, z⟩))⟩
      have st := loop (lnk a y u) [] (List.nil_append _).symm (fun q hq2 => absurd hq2 (by simp))
      exact st
  have h0 : V 0 = [] ++ cU a :: [] := hD.1.2.2.2.1
  have hne : PT a (4 - 0) 0 (cU a) ≠ [] := by
    intro z
    have h1 := KK_nil hW hR
    rw [KK_PT hW hR] at h1
    rw [show PT a 4 0 (cU a) = [] from z] at h1
    exact absurd h1 (by simp)
  obtain ⟨v, x1, x2⟩ := hE 0 [] (cU a) [] (Nat.zero_le _) h0 hne
  refine rows (nR a) 0 0 (cU a) [] [] v (by omega) h0 x1 x2 (fun i hi => ?_)
  rw [Nat.zero_add]
  have eK := KK_PT hW hR
  refine h v i ?_ ?_
  · rw [eK]; exact x1
  · rw [eK]; exact hi
end BF
