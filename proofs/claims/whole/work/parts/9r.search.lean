-- A TABLE FOUND IN THE LIST, by halving
theorem srt_get {L : List Nat} (h : L.Pairwise (fun p q => p < q)) {i j : Nat} (hij : i < j) (hj : j < L.length) : L.getD i 0 < L.getD j 0 := by
  have hi : i < L.length := by omega
  rw [List.getD_eq_getElem?_getD, List.getD_eq_getElem?_getD, List.getElem?_eq_getElem hi, List.getElem?_eq_getElem hj]
  exact List.pairwise_iff_getElem.mp h i j hi hj hij
theorem srt_le {L : List Nat} (h : L.Pairwise (fun p q => p < q)) {i j : Nat} (hi : i < L.length) (hj : j < L.length) : L.getD i 0 ≤ L.getD j 0 ↔ i ≤ j := by
  rcases Nat.lt_trichotomy i j with c | c | c
  · have := srt_get h c hj; omega
  · rw [c]; omega
  · have := srt_get h c hi; omega
theorem xtop {m : Nat} (hm : m < 2 ^ 64) : (lN m ^^^ (-9223372036854775808 : Int64)).toInt = (m : Int) - 2 ^ 63 := by
  have e : (-9223372036854775808 : Int64) = lN (2 ^ 63) := by decide
  rw [e, lN_xor]
  have h1 := Nat.xor_div_two_pow (a := m) (b := 2 ^ 63) (n := 63)
  have h2 := Nat.xor_mod_two_pow (a := m) (b := 2 ^ 63) (n := 63)
  rw [Nat.mod_self, Nat.xor_zero] at h2
  rw [Nat.div_self (by decide)] at h1
  have h3 := Nat.div_add_mod (m ^^^ 2 ^ 63) (2 ^ 63)
  have h4 := Nat.div_add_mod m (2 ^ 63)
  have hd : m / 2 ^ 63 = 0 ∨ m / 2 ^ 63 = 1 := by omega
  rcases hd with hd | hd
  · rw [hd] at h1 h4
    rw [h1, h2, show (0 : Nat) ^^^ 1 = 1 from rfl] at h3
    rw [lN_ti (by omega), if_neg (by omega)]
    omega
  · rw [hd] at h1 h4
    rw [h1, h2, show (1 : Nat) ^^^ 1 = 0 from rfl] at h3
    rw [lN_ti (by omega), if_pos (by omega)]
    omega
theorem xlt {m n : Nat} (hm : m < 2 ^ 64) (hn : n < 2 ^ 64) : (lN m ^^^ (-9223372036854775808 : Int64)) < (lN n ^^^ (-9223372036854775808 : Int64)) ↔ m < n := by
  rw [fa_lt64, xtop hm, xtop hn]
  omega
def lpN : Nat → Nat
  | 0 => 0
  | k + 1 => 2 ^ k
section SR
variable {g : GX} {d : Nat} {ρ : Rs} {S : St} {a : AS}
/-- the class's list -/
def LstC (L : List Nat) (S : St) : Prop := S.1 70 3 = nI L.length ∧ ∀ i, i < L.length → S.2 71 i = lN (L.getD i 0)
theorem sC_find {Q : Int32 → St → Prop} (hρ : Ok ρ) {L : List Nat} (hL : LstC L S) (hs : L.Pairwise (fun p q => p < q)) (hb : ∀ p, p ∈ L → p < 2 ^ 64) (hl : L.length ≤ 1000) {i : Nat} (hi : i < L.length) (h : Q (nI i) S) : CALLi g (d + 3) mX6_find [.ref 70, .long (lN (L.getD i 0))] ρ ρ S Q := by
  refine eX6_find hρ ?_
  have hpb := hb _ (getD_mem hi)
  have key : ∀ k at', k ≤ 10 → at' ≤ i → i < at' + 2 ^ k → AW g ρ (QI Q) (d + 3) mX6_find 14 [(0, .ref 70), (3, .long (lN (L.getD i 0) ^^^ (-9223372036854775808))), (5, .int (nI at')), (6, .int (nI (lpN k)))] [] ρ S := by
    intro k
    induction k with
    | zero =>
      intro at' _ h1 h2
      refine eX6_find_14 hρ ?_
      rw [if_pos (show nI (lpN 0) ≤ (0 : Int32) by decide), show at' = i by have : i < at' + 1 := h2; omega]
      exact h
    | succ k ih =>
      intro at' hk h1 h2
      have hp : 2 ^ k ≤ 2 ^ 9 := Nat.pow_le_pow_right (by decide) (by omega)
      have hp0 := Nat.two_pow_pos k
      rw [Nat.pow_succ] at h2
      have hsh : nI (2 ^ k) >>> ((1 : Int32) &&& 31) = nI (lpN k) := by
        rw [pk_shrN (n := 2 ^ k) (by omega) ((1 : Int32) &&& 31) 1 (s_l 1 (by omega))]
        congr 1
        cases k with
        | zero => rfl
        | succ k =>
          show 2 ^ (k + 1) / 2 ^ 1 = 2 ^ k
          rw [Nat.pow_succ, Nat.pow_one]
          omega
      have ez : (nI (2 ^ k) ≤ (0 : Int32)) ↔ 2 ^ k ≤ 0 := nI_leI (b := 0) (by omega) (by omega)
      refine eX6_find_14 hρ ?_
      show if nI (2 ^ k) ≤ (0 : Int32) then _ else if S.1 70 3 ≤ nI at' + nI (2 ^ k) then AW g ρ (QI Q) (d + 3) mX6_find 14 [(0, .ref 70), (3, .long (lN (L.getD i 0) ^^^ (-9223372036854775808))), (5, .int (nI at')), (6, .int (nI (2 ^ k) >>> ((1 : Int32) &&& 31)))] [] ρ S else if (1000 : Int32) ≤ nI at' + nI (2 ^ k) then AW g ρ (QI Q) (d + 3) mX6_find 14 [(0, .ref 70), (3, .long (lN (L.getD i 0) ^^^ (-9223372036854775808))), (5, .int (nI at')), (6, .int (nI (2 ^ k) >>> ((1 : Int32) &&& 31)))] [] ρ S else vp_in (nI at' + nI (2 ^ k)) 1000 ∧ (if (lN (L.getD i 0) ^^^ (-9223372036854775808)) < ((S.2 71 ((nI at' + nI (2 ^ k)).toNatClampNeg)) ^^^ (-9223372036854775808)) then AW g ρ (QI Q) (d + 3) mX6_find 14 [(0, .ref 70), (3, .long (lN (L.getD i 0) ^^^ (-9223372036854775808))), (5, .int (nI at')), (6, .int (nI (2 ^ k) >>> ((1 : Int32) &&& 31)))] [] ρ S else AW g ρ (QI Q) (d + 3) mX6_find 14 [(0, .ref 70), (3, .long (lN (L.getD i 0) ^^^ (-9223372036854775808))), (5, .int (nI at' + nI (2 ^ k))), (6, .int (nI (2 ^ k) >>> ((1 : Int32) &&& 31)))] [] ρ S)
      rw [if_neg (fun z => by have := ez.mp z; omega), hL.1, nI_add, hsh]
      by_cases c : L.length ≤ at' + 2 ^ k
      · rw [if_pos (nI_le c (by omega))]
        exact ih at' (by omega) h1 (by omega)
      · rw [if_neg (nI_ge (by omega) (by omega)), if_neg (show ¬ (1000 : Int32) ≤ nI (at' + 2 ^ k) from nI_ge (b := 1000) (by omega) (by omega)), nI_clamp (by omega), hL.2 _ (by omega)]
        refine ⟨vp_in_nI (by omega) (by omega), ?_⟩
        have hqb := hb _ (getD_mem (show at' + 2 ^ k < L.length by omega))
        have hle := srt_le hs (show at' + 2 ^ k < L.length by omega) hi
        by_cases c2 : L.getD i 0 < L.getD (at' + 2 ^ k) 0
        · rw [if_pos ((xlt hpb hqb).mpr c2)]
          exact ih at' (by omega) h1 (by omega)
        · rw [if_neg (fun z => c2 ((xlt hpb hqb).mp z))]
          exact ih (at' + 2 ^ k) (by omega) (by omega) (by omega)
  exact key 10 0 (by omega) (Nat.zero_le _) (by omega)
/-- one table is before another where the first cell that differs is less -/
theorem flt_lex (hW : WF a) (hR : nR a ≠ 0) {t u : Nat → Nat → Nat} (hT : Tab (nR a) (nC a) (hol a) t) (hU : Tab (nR a) (nC a) (hol a) u) (h1 : ∀ y x, t y x < 16) (h2 : ∀ y x, u y x < 16) {k : Nat} (hk : k < nR a * nC a) (he : ∀ j, j < k → flt (nC a) t j = flt (nC a) u j) (hl : flt (nC a) t k < flt (nC a) u k) : pack t < pack u := by
  have hle := hW.le
  have hC : 2 ≤ nC a := (hW.told hR).2.2.1
  have k1 : k / nC a < nR a := Nat.div_lt_of_lt_mul (by rw [Nat.mul_comm]; exact hk)
  have k2 := Nat.mod_lt k (show 0 < nC a by omega)
  have k3 := Nat.div_add_mod k (nC a)
  refine pack_lex h1 h2 (y := k / nC a) (x := k % nC a) (by omega) (by omega) (fun i hi => ?_) hl
  by_cases c : i % 4 < nC a
  · have hlt : i / 4 * nC a + i % 4 < k := by
      rcases Nat.lt_or_ge (i / 4) (k / nC a) with q | q
      · have := idx_lt (R := k / nC a) (C := nC a) q c
        rw [Nat.mul_comm] at this
        have h5 : nC a * (k / nC a) ≤ k := by omega
        rw [Nat.mul_comm (nC a)] at this
        rw [Nat.mul_comm] at h5
        omega
      · have e : i / 4 = k / nC a := by omega
        rw [e, Nat.mul_comm]
        omega
    have := he _ hlt
    rw [flt_at _ c, flt_at _ c] at this
    exact this
  · rw [hT.1 _ _ (by omega), hU.1 _ _ (by omega)]
theorem sM_isAhead {Q : Int32 → St → Prop} (hρ : Ok ρ) (hW : WF a) (hR : nR a ≠ 0) (hI : IM a S) {k2 n2 : Nat} (h16 : 16 ≤ k2) (hn : k2 < rn ρ) (hs : shp ρ k2 = .inr (0, n2)) (hn2 : 16 ≤ n2) (hn3 : n2 < 2 ^ 31) {L : List Nat} (hLs : LstM a L S) (hLl : L.length ≤ 1000) {i p : Nat} (hi : i < L.length) (hq : L.getD i 0 ∈ KK a) (hp : p ∈ KK a) (hc : ∀ k, k < nR a * nC a → S.1 k2 (0 + k) = nI (flt (nC a) (unp p) k)) (h : Q (if L.getD i 0 < p then 1 else 0) S) : CALLi g (d + 1) mX12_isAhead [.ref 80, .int (nI i), .ref k2, .int 0] ρ ρ S Q := by
  have hle := hW.le
  have e2 := mul44 hle.1 hle.2.1
  obtain ⟨p1, -, p3⟩ := KK_tab hW hR hp
  obtain ⟨q1, -, q3⟩ := KK_tab hW hR hq
  refine eX12_isAhead hρ h16 hn hs ?_
  have key : ∀ n k, n + k = nR a * nC a → (∀ j, j < k → flt (nC a) (unp (L.getD i 0)) j = flt (nC a) (unp p) j) → AW g ρ (QI Q) (d + 1) mX12_isAhead 3 [(0, .ref 80), (1, .int (nI i)), (2, .ref k2), (3, .int 0), (4, .int (nI k))] [] ρ S := by
    intro n
    induction n with
    | zero =>
      intro k hk hj
      refine eX12_isAhead_3 hρ h16 hn hs (sM_many hρ hI ?_)
      rw [if_pos (nI_le (by omega) (by omega))]
      have e : L.getD i 0 = p := by
        rw [← p3, ← q3]
        congr 1
        funext y x
        by_cases c : y < nR a ∧ x < nC a
        · have := hj (y * nC a + x) (by have := idx_lt c.1 c.2; omega)
          rw [flt_at _ c.2, flt_at _ c.2] at this
          exact this
        · rw [q1.1 y x c, p1.1 y x c]
      rw [if_neg (by omega)] at h
      exact h
    | succ n ih =>
      intro k hk hj
      have b1 : flt (nC a) (unp (L.getD i 0)) k < 16 := unp_lt _ _ _
      have b2 : flt (nC a) (unp p) k < 16 := unp_lt _ _ _
      have e3 : (16 : Int32) * nI i + nI k = nI (16 * i + k) := by
        show nI 16 * nI i + _ = _
        rw [pk_mul, nI_add]
      have e4 : (0 : Int32) + nI k = nI (0 + k) := nI_add 0 k
      refine eX12_isAhead_3 hρ h16 hn hs (sM_many hρ hI ?_)
      rw [if_neg (nI_ge (by omega) (by omega)), e3, e4, nI_clamp (show 16 * i + k < 2 ^ 31 by omega), nI_clamp (show 0 + k < 2 ^ 31 by omega), hLs i hi k (by omega), hc k (by omega), nI_1]
      have v1 : vp_in (nI (16 * i + k)) 16000 := vp_in_nI (by omega) (by omega)
      have v2 : vp_in (nI (0 + k)) n2 := vp_in_nI (by omega) hn3
      refine ⟨v1, v2, ?_⟩
      by_cases c : flt (nC a) (unp (L.getD i 0)) k = flt (nC a) (unp p) k
      · rw [if_pos (by rw [c])]
        refine ih (k + 1) (by omega) (fun j hj2 => ?_)
        by_cases cj : j = k
        · rw [cj]; exact c
        · exact hj j (by omega)
      · rw [if_neg (by rw [nI_eq (by omega) (by omega)]; exact c)]
        refine ⟨v1, v2, ?_⟩
        rcases Nat.lt_or_ge (flt (nC a) (unp (L.getD i 0)) k) (flt (nC a) (unp p) k) with c2 | c2
        · rw [if_neg (nI_ge c2 (by omega))]
          have := flt_lex hW hR q1 p1 (unp_lt _) (unp_lt _) (show k < nR a * nC a by omega) hj c2
          rw [p3, q3] at this
          rw [if_pos this] at h
          exact h
        · rw [if_pos (nI_le c2 (by omega))]
          have := flt_lex hW hR p1 q1 (unp_lt _) (unp_lt _) (show k < nR a * nC a by omega) (fun j hj2 => (hj j hj2).symm) (by omega)
          rw [p3, q3] at this
          rw [if_neg (by omega)] at h
          exact h
  exact key (nR a * nC a) 0 (by omega) (fun j hj => absurd hj (by omega))
theorem sM_listedAt {Q : Int32 → St → Prop} (hρ : Ok ρ) (hW : WF a) (hR : nR a ≠ 0) (hI : IM a S) {k2 n2 : Nat} (h16 : 16 ≤ k2) (hn : k2 < rn ρ) (hs : shp ρ k2 = .inr (0, n2)) (hn2 : 16 ≤ n2) (hn3 : n2 < 2 ^ 31) {L : List Nat} (hLk : ∀ p, p ∈ L → p ∈ KK a) (hLo : L.Pairwise (fun p q => p < q)) (hLs : LstM a L S) (hLl : L.length ≤ 1000) (h32 : S.1 80 32 = nI L.length) {i : Nat} (hi : i < L.length) (hc : ∀ k, k < nR a * nC a → S.1 k2 (0 + k) = nI (flt (nC a) (unp (L.getD i 0)) k)) (h : Q (nI i) S) : CALLi g (d + 2) mX12_listedAt [.ref 80, .ref k2, .int 0] ρ ρ S Q := by
  refine eX12_listedAt hρ h16 hn hs ?_
  rw [h32, show nI L.length - 1 = nI (L.length - 1) from pk_sub (b := 1) (by omega)]
  have key : ∀ n lo hi', hi' - lo ≤ n → lo ≤ i → i ≤ hi' → hi' < L.length → AW g ρ (QI Q) (d + 1 + 1) mX12_listedAt 10 [(0, .ref 80), (1, .ref k2), (2, .int 0), (3, .int (nI lo)), (4, .int (nI hi'))] [] ρ S := by
    intro n
    induction n with
    | zero =>
      intro lo hi' h1 h2 h3 h4
      refine eX12_listedAt_10 hρ h16 hn hs ?_
      rw [if_pos (nI_le (by omega) (by omega)), show lo = i by omega]
      exact h
    | succ n ih =>
      intro lo hi' h1 h2 h3 h4
      refine eX12_listedAt_10 hρ h16 hn hs ?_
      by_cases c : hi' ≤ lo
      · rw [if_pos (nI_le c (by omega)), show lo = i by omega]
        exact h
      · have em : (nI lo + nI hi') / 2 = nI ((lo + hi') / 2) := by
          rw [nI_add]
          exact pk_div (d := 2) (by omega) (by omega) (by omega)
        have hm : (lo + hi') / 2 < L.length := by omega
        rw [if_neg (nI_ge (by omega) (by omega)), em]
        refine sM_isAhead hρ hW hR hI h16 hn hs hn2 hn3 hLs hLl hm (hLk _ (getD_mem hm)) (hLk _ (getD_mem hi)) hc ?_
        have hle := srt_le hLo hi hm
        by_cases c2 : L.getD ((lo + hi') / 2) 0 < L.getD i 0
        · rw [if_pos c2, if_neg (by decide), nI_1]
          exact ih ((lo + hi') / 2 + 1) hi' (by omega) (by omega) h3 h4
        · rw [if_neg c2, if_pos rfl]
          exact ih lo ((lo + hi') / 2) (by omega) h2 (by omega) (by omega)
  exact key L.length 0 (L.length - 1) (by omega) (Nat.zero_le _) (by omega) (by omega)
end SR
