-- THE CLASS'S FILLS, one kept
/-- one slot of some labels is changed -/
def Sk (F : Nat → Prop) (i : Nat) (S S' : St) : Prop := ∀ k j, ¬ (F k ∧ j = i) → S'.1 k j = S.1 k j ∧ S'.2 k j = S.2 k j
theorem Sk.rf {F : Nat → Prop} {i : Nat} (S : St) : Sk F i S S := fun _ _ _ => ⟨rfl, rfl⟩
theorem Sk.setI {F : Nat → Prop} {i : Nat} {S S1 : St} (h : Sk F i S S1) (k : Nat) (v : Int32) (hk : F k) : Sk F i S (setI S1 k i v) := by
  intro k' j q
  have := h k' j q
  refine ⟨?_, this.2⟩
  rw [setI_at, if_neg (fun z => q ⟨by rw [z.1]; exact hk, z.2⟩)]
  exact this.1
theorem Sk.setL {F : Nat → Prop} {i : Nat} {S S1 : St} (h : Sk F i S S1) (k : Nat) (v : Int64) (hk : F k) : Sk F i S (setL S1 k i v) := by
  intro k' j q
  have := h k' j q
  refine ⟨this.1, ?_⟩
  rw [setL_at, if_neg (fun z => q ⟨by rw [z.1]; exact hk, z.2⟩)]
  exact this.2
theorem Sk.fr {F : Nat → Prop} {i : Nat} {S S1 : St} (h : Sk F i S S1) : Fr F S S1 := fun k hk => ⟨funext fun j => (h k j (fun z => hk z.1)).1, funext fun j => (h k j (fun z => hk z.1)).2⟩
def FFil (k : Nat) : Prop := k = 34 ∨ k = 35 ∨ k = 36 ∨ k = 38 ∨ k = 39 ∨ k = 40 ∨ k = 41
theorem facL_eq : ∀ n, n < 21 → facL.getD n 0 = lN (fac n) := by decide
/-- the strides -/
def stS (a : AS) : Nat → Nat
  | 0 => 1
  | x + 1 => stS a x * (csum (cel a) x + 1)
def strd (a : AS) (x : Nat) : Nat := if x + 1 < nC a then stS a x else 0
def tkS (f : Nat → Nat) : Nat → Nat
  | 0 => 0
  | n + 1 => tkS f n + 2 ^ (6 * n) * f n
theorem tkS_lt {f : Nat → Nat} (h : ∀ x, f x < 64) : ∀ n, tkS f n < 2 ^ (6 * n)
  | 0 => by show 0 < 1; omega
  | n + 1 => by
    have ih := tkS_lt h n
    have h1 := h n
    show tkS f n + 2 ^ (6 * n) * f n < 2 ^ (6 * (n + 1))
    rw [show 6 * (n + 1) = 6 * n + 6 by omega, Nat.pow_add]
    have h2 : 2 ^ (6 * n) * f n ≤ 2 ^ (6 * n) * 63 := Nat.mul_le_mul_left _ (by omega)
    generalize 2 ^ (6 * n) = P at *
    show _ < P * 64
    omega
def cdS (a : AS) (f : Nat → Nat) : Nat → Nat
  | 0 => 0
  | n + 1 => cdS a f n + f n * strd a n
def tk (l : Nat) : Nat := tkS (dg l) 4
def cdd (a : AS) (l : Nat) : Nat := cdS a (dg l) 4
def fillAt (a : AS) (q : Nat × Nat) (i : Nat) (S : St) : Prop := S.1 34 i = nI q.2 ∧ S.1 35 i = nI (tk q.2) ∧ S.1 36 i = nI (cdd a q.2) ∧ S.2 38 i = lN (mrow a 0 q.1 (dg q.2)) ∧ S.2 39 i = lN (mrow a 1 q.1 (dg q.2)) ∧ S.2 40 i = lN (mrow a 2 q.1 (dg q.2)) ∧ S.2 41 i = lN (mrow a 3 q.1 (dg q.2))
def FI (a : AS) (L : List (Nat × Nat)) (S : St) : Prop := S.1 32 7 = nI L.length ∧ S.2 32 6 = lN (scl a) ∧ (∀ x, x < 4 → S.1 42 x = nI (strd a x)) ∧ ∀ i, i < L.length → fillAt a (L.getD i (0, 0)) i S
theorem gD_l {L M : List (Nat × Nat)} {i : Nat} (h : i < L.length) : (L ++ M).getD i (0, 0) = L.getD i (0, 0) := by
  rw [List.getD_eq_getElem?_getD, List.getD_eq_getElem?_getD, List.getElem?_append_left h]
theorem gD_e {L : List (Nat × Nat)} {p : Nat × Nat} : (L ++ [p]).getD L.length (0, 0) = p := by
  rw [List.getD_eq_getElem?_getD, List.getElem?_append_right (Nat.le_refl _), Nat.sub_self]
  rfl
theorem mr3_lt {a : AS} {y : Nat} {f : Nat → Nat} (h : ∀ x, f x < 16) : ∀ n, mrS a 3 y f n < 16
  | 0 => by show 0 < 16; omega
  | n + 1 => by
    have ih := mr3_lt (a := a) (y := y) h n
    have := h n
    show max (mrS a 3 y f n) (f n) < 16
    omega
section KP
variable {g : GX} {d : Nat} {ρ : Rs} {S : St} {a : AS}
theorem sC_factorial {Q : Int64 → St → Prop} (hρ : Ok ρ) {n : Nat} (hn : n ≤ 20) (h : Q (lN (fac n)) S) : CALLl g (d + 3) mX2_factorial [.int (nI n)] ρ ρ S Q := by
  refine eX2_factorial hρ ?_
  rw [if_neg (show ¬ nI n < (0 : Int32) from nI_nlt (b := 0) (by omega) (by omega)), if_neg (show ¬ (21 : Int32) ≤ nI n from nI_ge (b := 21) (by omega) (by omega)), nI_clamp (by omega), facL_eq n (by omega)]
  exact ⟨vp_in_nI (by omega) (by omega), h⟩
theorem sC_quotient {Q : Int64 → St → Prop} (hρ : Ok ρ) {m n : Nat} (hm : m < 2 ^ 63) (hn : n < 2 ^ 63) (h : Q (lN (m / n)) S) : CALLl g (d + 3) mX7_quotient [.long (lN m), .long (lN n)] ρ ρ S Q := by
  refine eX7_quotient hρ ?_
  have ez : lN n = (0 : Int64) ↔ n = 0 := lNeq (n := 0) (by omega) (by omega)
  by_cases c : n = 0
  · rw [if_pos (ez.mpr c)]
    rw [c, Nat.div_zero] at h
    exact h
  · rw [if_neg (fun z => c (ez.mp z)), lNdiv hm hn]
    exact ⟨fun z => c (ez.mp z), h⟩
theorem sC_inLine {Q : Int32 → St → Prop} (hρ : Ok ρ) {l x : Nat} (hl : l < 65536) (hx : x < 4) (h : Q (nI (dg l x)) S) : CALLi g (d + 3) mX3_inLine [.int (nI l), .int (nI x)] ρ ρ S Q := by
  refine eX3_inLine hρ ?_
  have e : (4 : Int32) * (3 - nI x) = nI (4 * (3 - x)) := by
    show nI 4 * (nI 3 - nI x) = _
    rw [pk_sub (by omega), pk_mul]
  rw [e, pk_shrN (by omega) _ _ (s_l (4 * (3 - x)) (by omega))]
  show Q (nI (l / 2 ^ (4 * (3 - x))) &&& nI (2 ^ 4 - 1)) S
  rw [fa_mask]
  unfold dg at h
  rw [if_pos hx, show (16 : Nat) = 2 ^ 4 from rfl, ← Nat.pow_mul] at h
  exact h
theorem sC_keep {Q : St → Prop} (hρ : Ok ρ) (hF : ∀ k ∈ ([32, 34, 35, 36, 38, 39, 40, 41] : List Nat), gF g k) (hW : WF a) (hR : nR a ≠ 0) (hI : IB a S) {y l : Nat} {L : List (Nat × Nat)} (hy : y < nR a) (hl : l ∈ LL a y) (hL : L.length < 320) (hFI : FI a L S) (h : ∀ S', FI a (L ++ [(y, l)]) S' → Fr (fun k => k = 32 ∨ FFil k) S S' → Q S') : CALLv g (d + 4) mX2_keep [.ref 32, .ref 21, .int (nI y), .int (nI l)] ρ ρ S Q := by
  have hle := hW.le
  have ht := hW.told hR
  have hs := ht.sums
  have hsc := scl_le ht
  obtain ⟨l1, l2⟩ := LL_mem.mp hl
  have l1 : l < 65536 := l1
  obtain ⟨l3, l4⟩ := inL_iff.mp l2
  have hdg : ∀ x, dg l x < 16 := dg_lt l
  have hr := hs.1 y
  have e32 : S.1 32 7 = nI L.length := hFI.1
  have er : S.1 22 y = nI (rsum (cel a) y) := hI.2.2.2.2.2.2.2.2.2.1 y (by omega)
  have ec : ∀ x, x < 4 → S.1 23 x = nI (csum (cel a) x) := hI.2.2.2.2.2.2.2.2.2.2.1
  have hrw : rowW (dg l) * pfc (dg l) 4 = fac (rsum (cel a) y) := by rw [← l3]; exact rowW_fac (by rw [l3]; exact hr)
  have hfac : fac (rsum (cel a) y) < 2 ^ 62 := Nat.lt_of_le_of_lt (fac_mono hr) (by decide)
  have hF4 : ∀ k ∈ ([34, 35, 36, 32] : List Nat), gF g k := fun k hk => hF k (by simp at hk; rcases hk with h | h | h | h <;> simp [h])
  have hF38 : ∀ i, i < 4 → gF g (38 + i) := fun i hi => hF (38 + i) (by rcases (show i = 0 ∨ i = 1 ∨ i = 2 ∨ i = 3 by omega) with rfl | rfl | rfl | rfl <;> simp)
  refine eX2_keep hρ ?_
  rw [nI_clamp (show y < 2 ^ 31 by omega), er]
  refine ⟨vp_in_nI (by omega) (by omega), ?_⟩
  refine sC_factorial hρ hr ?_
  generalize hi : L.length = i at *
  -- the four cells
  have key : ∀ n x, x + n = 4 → AW g ρ (QV Q) (d + 4) mX2_keep 32 [(0, .ref 32), (1, .ref 21), (2, .int (nI y)), (3, .int (nI l)), (4, .int (nI (rsum (cel a) y))), (5, .int (nI (tkS (dg l) x))), (6, .int (nI (cdS a (dg l) x))), (7, .long (lN (fac (rsum (cel a) y) / pfc (dg l) x))), (9, .long (lN (mrS a 1 y (dg l) x))), (11, .long (lN (mrS a 2 y (dg l) x))), (13, .long (lN (mrS a 3 y (dg l) x))), (15, .int (nI x))] [] ρ S := by
    intro n
    induction n with
    | zero =>
      intro x hx
      rw [show x = 4 by omega] at *
      refine eX2_keep_32 hρ hF4 hF38 ?_
      have vi : vp_in (nI i) 320 := vp_in_nI (by omega) (by omega)
      have e320 : (if nI i + 1 < 320 then nI i + 1 else 320) = nI (i + 1) := by
        rw [nI_1]
        by_cases c : i + 1 < 320
        · rw [if_pos (show nI (i + 1) < 320 from nI_lt (b := 320) c (by decide))]
        · rw [if_neg (show ¬ nI (i + 1) < 320 from nI_nlt (b := 320) (by omega) (by omega)), show i + 1 = 320 by omega]; rfl
      rw [if_pos (show (4 : Int32) ≤ nI 4 by decide), e32, e320, nI_clamp (show i < 2 ^ 31 by omega)]
      refine ⟨vi, vi, vi, vi, ?_⟩
      have sk : Sk FFil i S (setL (setL (setL (setL (setI (setI (setI S 34 i (nI l)) 35 i (nI (tkS (dg l) 4))) 36 i (nI (cdS a (dg l) 4))) 38 i (lN (fac (rsum (cel a) y) / pfc (dg l) 4))) 39 i (lN (mrS a 1 y (dg l) 4))) 40 i (lN (mrS a 2 y (dg l) 4))) 41 i (lN (mrS a 3 y (dg l) 4))) := (((((((Sk.rf S).setI 34 _ (by unfold FFil; simp)).setI 35 _ (by unfold FFil; simp)).setI 36 _ (by unfold FFil; simp)).setL 38 _ (by unfold FFil; simp)).setL 39 _ (by unfold FFil; simp)).setL 40 _ (by unfold FFil; simp)).setL 41 _ (by unfold FFil; simp)
      generalize hS1 : setL (setL (setL (setL (setI (setI (setI S 34 i (nI l)) 35 i (nI (tkS (dg l) 4))) 36 i (nI (cdS a (dg l) 4))) 38 i (lN (fac (rsum (cel a) y) / pfc (dg l) 4))) 39 i (lN (mrS a 1 y (dg l) 4))) 40 i (lN (mrS a 2 y (dg l) 4))) 41 i (lN (mrS a 3 y (dg l) 4)) = S1 at sk ⊢
      have k34 : S1.1 34 i = nI l := by rw [← hS1]; simp only [setL_I]; rw [setI_ne _ _ _ (by decide), setI_ne _ _ _ (by decide), setI_at, if_pos ⟨rfl, rfl⟩]
      have k35 : S1.1 35 i = nI (tkS (dg l) 4) := by rw [← hS1]; simp only [setL_I]; rw [setI_ne _ _ _ (by decide), setI_at, if_pos ⟨rfl, rfl⟩]
      have k36 : S1.1 36 i = nI (cdS a (dg l) 4) := by rw [← hS1]; simp only [setL_I]; rw [setI_at, if_pos ⟨rfl, rfl⟩]
      have k38 : S1.2 38 i = lN (fac (rsum (cel a) y) / pfc (dg l) 4) := by rw [← hS1, setL_ne _ _ _ (by decide), setL_ne _ _ _ (by decide), setL_ne _ _ _ (by decide), setL_at, if_pos ⟨rfl, rfl⟩]
      have k39 : S1.2 39 i = lN (mrS a 1 y (dg l) 4) := by rw [← hS1, setL_ne _ _ _ (by decide), setL_ne _ _ _ (by decide), setL_at, if_pos ⟨rfl, rfl⟩]
      have k40 : S1.2 40 i = lN (mrS a 2 y (dg l) 4) := by rw [← hS1, setL_ne _ _ _ (by decide), setL_at, if_pos ⟨rfl, rfl⟩]
      have k41 : S1.2 41 i = lN (mrS a 3 y (dg l) 4) := by rw [← hS1, setL_at, if_pos ⟨rfl, rfl⟩]
      refine h _ ⟨?_, ?_, fun x hx => ?_, fun j hj => ?_⟩ (Fr.tr (sk.fr.mono (fun k hk => Or.inr hk)) (Fr.setI (F := fun k => k = 32 ∨ FFil k) _ _ _ (Or.inl rfl)))
      · rw [setI_at, if_pos ⟨rfl, rfl⟩, List.length_append, hi]; rfl
      · rw [setI_L, (sk 32 6 (fun z => by unfold FFil at z; omega)).2]; exact hFI.2.1
      · rw [setI_ne _ _ _ (by decide), (sk 42 x (fun z => by unfold FFil at z; omega)).1]; exact hFI.2.2.1 x hx
      · rw [List.length_append, hi] at hj
        have hj : j < i + 1 := hj
        unfold fillAt
        rw [setI_ne _ _ _ (by decide), setI_ne _ _ _ (by decide), setI_ne _ _ _ (by decide), setI_L]
        by_cases c : j = i
        · rw [c, ← hi, gD_e, hi]
          refine ⟨k34, k35, k36, ?_, k39, k40, k41⟩
          rw [k38]
          congr 1
          show _ = rowW (dg l)
          rw [← hrw]
          exact Nat.mul_div_cancel _ (pfc_pos _ _)
        · have z := hFI.2.2.2 j (by omega)
          unfold fillAt at z
          rw [gD_l (by omega)]
          have q := fun k => sk k j (fun z => c z.2)
          rw [(q 34).1, (q 35).1, (q 36).1, (q 38).2, (q 39).2, (q 40).2, (q 41).2]
          exact z
    | succ n ih =>
      intro x hx
      have q326 : S.2 32 6 = lN (scl a) := hFI.2.1
      have q42 : S.1 42 x = nI (strd a x) := hFI.2.2.1 x (by omega)
      have q23 : S.1 23 x = nI (csum (cel a) x) := ec x (by omega)
      have hv := hdg x
      have hcx := hs.2 x
      have hrc : rsum (cel a) y * csum (cel a) x ≤ 20 * 20 := Nat.mul_le_mul hr hcx
      refine eX2_keep_32 hρ hF4 hF38 ?_
      rw [if_neg (show ¬ (4 : Int32) ≤ nI x from nI_ge (b := 4) (by omega) (by omega))]
      refine sC_inLine hρ l1 (by omega) ?_
      rw [nI_clamp (show x < 2 ^ 31 by omega)]
      have vx : vp_in (nI x) 4 := vp_in_nI (by omega) (by omega)
      refine ⟨vx, vx, ?_⟩
      have e35 : nI (tkS (dg l) x) ||| (nI (dg l x) <<< ((6 * nI x) &&& 31)) = nI (tkS (dg l) (x + 1)) := by
        have e : (6 : Int32) * nI x = nI (6 * x) := by
          show nI 6 * nI x = _
          rw [pk_mul]
        have hp : dg l x * 2 ^ (6 * x) < 2 ^ 32 := by
          have : 2 ^ (6 * x) ≤ 2 ^ 18 := Nat.pow_le_pow_right (by decide) (by omega)
          have h2 : dg l x * 2 ^ (6 * x) ≤ 15 * 2 ^ 18 := Nat.mul_le_mul (by omega) this
          omega
        rw [e, pk_shlN _ _ (s_l (6 * x) (by omega)) hp, Int32.or_comm, Nat.mul_comm, fa_or_sum _ (tkS_lt (fun z => by have := hdg z; omega) x)]
        congr 1
        show _ = tkS (dg l) x + 2 ^ (6 * x) * dg l x
        omega
      have e36 : nI (cdS a (dg l) x) + nI (dg l x) * S.1 42 x = nI (cdS a (dg l) (x + 1)) := by
        rw [q42, pk_mul, nI_add]
        rfl
      rw [e35, e36]
      refine sC_factorial hρ (by omega) ?_
      have hq0 : fac (rsum (cel a) y) / pfc (dg l) x < 2 ^ 63 := Nat.lt_of_le_of_lt (Nat.div_le_self _ _) (by omega)
      have hq1 : fac (dg l x) < 2 ^ 63 := Nat.lt_of_le_of_lt (fac_mono (show dg l x ≤ 20 by omega)) (by decide)
      refine sC_quotient hρ hq0 hq1 ?_
      rw [q326, q23, nI_l (show rsum (cel a) y < 2 ^ 31 by omega), nI_l (show csum (cel a) x < 2 ^ 31 by omega), lN_mul]
      refine sC_quotient hρ (by omega) (by omega) ?_
      rw [nI_1 x]
      have e39 : lN (mrS a 1 y (dg l) x) + (nI (dg l x) * nI (dg l x)).toInt64 * lN (scl a / (rsum (cel a) y * csum (cel a) x)) = lN (mrS a 1 y (dg l) (x + 1)) := by
        have : dg l x * dg l x ≤ 15 * 15 := Nat.mul_le_mul (by omega) (by omega)
        rw [pk_mul, nI_l (by omega), lN_mul, lN_add]
        rfl
      have e40 : lN (mrS a 2 y (dg l) x) + (nI (dg l x) * (nI y + 1) * nI (x + 1)).toInt64 = lN (mrS a 2 y (dg l) (x + 1)) := by
        have : dg l x * (y + 1) * (x + 1) ≤ 15 * 4 * 4 := Nat.mul_le_mul (Nat.mul_le_mul (by omega) (by omega)) (by omega)
        rw [nI_1, pk_mul, pk_mul, nI_l (by omega), lN_add]
        rfl
      have hm3 := mr3_lt (a := a) (y := y) hdg x
      have e41 : (if (nI (dg l x)).toInt64 < lN (mrS a 3 y (dg l) x) then lN (mrS a 3 y (dg l) x) else (nI (dg l x)).toInt64) = lN (mrS a 3 y (dg l) (x + 1)) := by
        rw [nI_l (show dg l x < 2 ^ 31 by omega)]
        show _ = lN (max (mrS a 3 y (dg l) x) (dg l x))
        by_cases c : dg l x < mrS a 3 y (dg l) x
        · rw [if_pos ((lNlt (by omega) (by omega)).mpr c), Nat.max_eq_left (by omega)]
        · rw [if_neg (fun z => c ((lNlt (by omega) (by omega)).mp z)), Nat.max_eq_right (by omega)]
      have e38 : fac (rsum (cel a) y) / pfc (dg l) x / fac (dg l x) = fac (rsum (cel a) y) / pfc (dg l) (x + 1) := Nat.div_div_eq_div_mul _ _ _
      rw [e39, e40, e41, e38]
      exact ih (x + 1) (by omega)
  have k0 := key 4 0 (by omega)
  rw [show pfc (dg l) 0 = 1 from rfl, Nat.div_one] at k0
  exact k0
end KP
