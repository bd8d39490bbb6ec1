-- SUMS OVER ALL WAYS
def GT (a : AS) (h : Nat → Nat → Nat) : Nat → Nat → Nat → Nat
  | 0, _, _ => 1
  | n + 1, y, u => sml (fun l => h y l * GT a h n (y + 1) (u - tk l)) (lnk a y u)
theorem GT_s (a : AS) (h : Nat → Nat → Nat) (n y u : Nat) : GT a h (n + 1) y u = sml (fun l => h y l * GT a h n (y + 1) (u - tk l)) (lnk a y u) := by rw [GT]
theorem PT_s (a : AS) (n y u : Nat) : PT a (n + 1) y u = (lnk a y u).flatMap (fun l => (PT a n (y + 1) (u - tk l)).map (fun q => l * 65536 ^ n + q)) := by rw [PT]
theorem sml_congr {f g : Nat → Nat} : ∀ L : List Nat, (∀ s, s ∈ L → f s = g s) → sml f L = sml g L
  | [], _ => rfl
  | p :: L, h => by
    show f p + sml f L = g p + sml g L
    rw [h p (by simp), sml_congr L (fun s hs => h s (by simp [hs]))]
theorem sml_fm (f : Nat → Nat) (k : Nat → List Nat) : ∀ L : List Nat, sml f (L.flatMap k) = sml (fun l => sml f (k l)) L
  | [] => rfl
  | p :: L => by
    rw [List.flatMap_cons, sml_app, sml_fm f k L]
    rfl
theorem sml_map (f k : Nat → Nat) : ∀ L : List Nat, sml f (L.map k) = sml (fun l => f (k l)) L
  | [] => rfl
  | p :: L => by
    show f (k p) + sml f (L.map k) = f (k p) + _
    rw [sml_map f k L]
theorem sml_mul (c : Nat) (f : Nat → Nat) : ∀ L : List Nat, sml (fun l => c * f l) L = c * sml f L
  | [] => (Nat.mul_zero c).symm
  | p :: L => by
    show c * f p + sml _ L = c * (f p + sml f L)
    rw [sml_mul c f L, Nat.mul_add]
theorem sml_one : ∀ L : List Nat, sml (fun _ => 1) L = L.length
  | [] => rfl
  | p :: L => by
    show 1 + sml _ L = L.length + 1
    rw [sml_one L]
    omega
def prR (h : Nat → Nat → Nat) : Nat → Nat → Nat → Nat
  | 0, _, _ => 1
  | n + 1, y, p => h y (p / 65536 ^ n) * prR h n (y + 1) (p % 65536 ^ n)
theorem PT_GT {a : AS} (h : Nat → Nat → Nat) : ∀ n y u, u < topU → sml (prR h n y) (PT a n y u) = GT a h n y u
  | 0, _, _, _ => rfl
  | n + 1, y, u, hu => by
    have hB := Nat.pow_pos (n := n) (show 0 < 65536 by decide)
    rw [PT_s, GT_s, sml_fm]
    refine sml_congr _ (fun l hl => ?_)
    have hs := (fts_sub hu (lnk_mem.mp hl).2).2.1
    rw [sml_map, ← PT_GT h n (y + 1) (u - tk l) hs, ← sml_mul]
    refine sml_congr _ (fun q hq => ?_)
    have hql := PT_lt hs hq
    show h y ((l * 65536 ^ n + q) / 65536 ^ n) * prR h n (y + 1) ((l * 65536 ^ n + q) % 65536 ^ n) = _
    rw [Nat.mul_comm l, Nat.mul_add_div hB, Nat.div_eq_of_lt hql, Nat.add_zero, Nat.mul_add_mod, Nat.mod_eq_of_lt hql]
theorem prR_one : ∀ n y p, prR (fun _ _ => 1) n y p = 1
  | 0, _, _ => rfl
  | n + 1, y, p => by
    show 1 * prR _ n (y + 1) _ = 1
    rw [prR_one n]
theorem PT_len {a : AS} {n y u : Nat} (hu : u < topU) : (PT a n y u).length = GT a (fun _ _ => 1) n y u := by
  rw [← PT_GT _ n y u hu, ← sml_one]
  exact sml_congr _ (fun p _ => (prR_one n y p).symm)
theorem GT_end {a : AS} (hW : WF a) (hR : nR a ≠ 0) {h : Nat → Nat → Nat} (h1 : ∀ y, nR a ≤ y → h y 0 = 1) : ∀ n y u, nR a ≤ y → GT a h n y u = 1
  | 0, _, _, _ => rfl
  | n + 1, y, u, hy => by
    have hf : fts u 0 = true := fts_iff.mpr fun x hx => by
      unfold dg
      rw [if_pos hx, Nat.zero_div]
      exact Nat.zero_le _
    have hl : lnk a y u = [0] := by
      unfold lnk
      rw [LL_end hW hR hy]
      simp [hf]
    rw [GT_s, hl]
    show h y 0 * GT a h n (y + 1) _ + 0 = 1
    rw [h1 y hy, GT_end hW hR h1 n (y + 1) _ (by omega)]
theorem KK_GT {a : AS} (hW : WF a) (hR : nR a ≠ 0) (h : Nat → Nat → Nat) : sml (prR h 4 0) (KK a) = GT a h 4 0 (cU a) := by
  rw [KK_PT hW hR]
  exact PT_GT h 4 0 _ (cU_ok (hW.told hR)).1
theorem prR4 {h : Nat → Nat → Nat} {p : Nat} (hp : p < 2 ^ 64) : prR h 4 0 p = h 0 (ro p 0) * (h 1 (ro p 1) * (h 2 (ro p 2) * (h 3 (ro p 3) * 1))) := by
  have r0 : ro p 0 = p / 281474976710656 % 65536 := rfl
  have r1 : ro p 1 = p / 4294967296 % 65536 := rfl
  have r2 : ro p 2 = p / 65536 % 65536 := rfl
  have r3 : ro p 3 = p / 1 % 65536 := rfl
  show h 0 (p / 281474976710656) * (h 1 (p % 281474976710656 / 4294967296) * (h 2 (p % 281474976710656 % 4294967296 / 65536) * (h 3 (p % 281474976710656 % 4294967296 % 65536 / 1) * 1))) = _
  rw [show p / 281474976710656 = ro p 0 by rw [r0]; omega, show p % 281474976710656 / 4294967296 = ro p 1 by rw [r1]; omega, show p % 281474976710656 % 4294967296 / 65536 = ro p 2 by rw [r2]; omega, show p % 281474976710656 % 4294967296 % 65536 / 1 = ro p 3 by rw [r3]; omega]
-- nodes by their number
theorem node_dec (V : Nat → List Nat) : ∀ n k, k < off V n → ∃ j A u B, j < n ∧ V j = A ++ u :: B ∧ k = off V j + A.length
  | 0, k, h => absurd h (by show ¬ k < 0; omega)
  | n + 1, k, h => by
    by_cases c : k < off V n
    · obtain ⟨j, A, u, B, h1, h2, h3⟩ := node_dec V n k c
      exact ⟨j, A, u, B, by omega, h2, h3⟩
    · have h : k < off V n + (V n).length := h
      have ht : k - off V n < (V n).length := by omega
      refine ⟨n, (V n).take (k - off V n), (V n)[k - off V n], (V n).drop (k - off V n + 1), by omega, ?_, ?_⟩
      · rw [← List.drop_eq_getElem_cons ht, List.take_append_drop]
      · rw [List.length_take]
        omega
theorem split_at {W : List Nat} {t : Nat} (h : t < W.length) : ∃ A B, W = A ++ W.getD t 0 :: B ∧ A.length = t := by
  refine ⟨W.take t, W.drop (t + 1), ?_, ?_⟩
  · rw [List.getD_eq_getElem?_getD, List.getElem?_eq_getElem h]
    show W = W.take t ++ W[t] :: W.drop (t + 1)
    rw [← List.drop_eq_getElem_cons h, List.take_append_drop]
  · rw [List.length_take]
    omega
theorem DG.of {a : AS} {V : Nat → List Nat} {S S' : St} (h : DG a V S) (h1 : S'.1 = S.1) (h2 : ∀ k, k = 32 ∨ k = 38 ∨ k = 39 ∨ k = 40 ∨ k = 41 → S'.2 k = S.2 k) : DG a V S' := by
  unfold DG DI NS NP LO FIs FI fillAt at h ⊢
  rw [h1, h2 32 (by simp), h2 38 (by simp), h2 39 (by simp), h2 40 (by simp), h2 41 (by simp)]
  exact h
theorem DG.cap {a : AS} (hW : WF a) (hR : nR a ≠ 0) {V : Nat → List Nat} {S : St} (h : DG a V S) : off V (nR a + 1) ≤ 480 ∧ lof a V (nR a) ≤ 4800 := by
  obtain ⟨⟨-, -, -, a4, a5, -, -, -⟩, -⟩ := h
  have hVV : ∀ j, j ≤ nR a - 1 → (V j).Nodup ∧ ∀ u, u ∈ V j → Vd a (mY a j) u := fun j hj => ⟨(a5 j (by omega)).1, (a5 j (by omega)).2.1⟩
  have h1 := capNs hW hR a4 (show nR a - 1 < nR a by omega) hVV (V (nR a)) (a5 (nR a) (Nat.le_refl _)).1 (by rw [show nR a - 1 + 1 = nR a by omega]; exact (a5 (nR a) (Nat.le_refl _)).2.1)
  have h2 := lof_cap hW hR (show nR a - 1 < nR a by omega) hVV
  rw [show nR a - 1 + 1 = nR a by omega] at h1 h2
  exact ⟨h1, h2⟩
theorem DG.f44 {a : AS} {V : Nat → List Nat} {S : St} (h : DG a V S) : ∀ n j, n + j = nR a → S.1 44 (off V j) = nI (lof a V j)
  | 0, j, hj => by
    rw [show j = nR a by omega]
    exact h.2 _ (Nat.le_refl _) (off_mono V _ (by omega))
  | n + 1, j, hj => by
    cases e : V j with
    | nil =>
      have ih := DG.f44 h n (j + 1) (by omega)
      have e1 : off V (j + 1) = off V j := by show off V j + (V j).length = _; rw [e]; rfl
      have e2 : lof a V (j + 1) = lof a V j := by show lof a V j + LC a j (V j) = _; rw [e, LC_nil]; rfl
      rw [e1, e2] at ih
      exact ih
    | cons u B =>
      have := (h.1.2.2.2.2.2.2.1 j (by omega) [] u B e).1
      rw [LC_nil] at this
      exact this
theorem DG.first {a : AS} {V : Nat → List Nat} {S : St} (h : DG a V S) {j : Nat} (hj : j < nR a) {A B : List Nat} {u : Nat} (e : V j = A ++ u :: B) : S.1 44 (off V j + A.length) = nI (lof a V j + LC a j A) ∧ S.1 44 (off V j + A.length + 1) = nI (lof a V j + LC a j A + (lnk a j u).length) := by
  refine ⟨(h.1.2.2.2.2.2.2.1 j hj A u B e).1, ?_⟩
  cases eB : B with
  | nil =>
    rw [eB] at e
    have f := h.f44 (nR a - (j + 1)) (j + 1) (by omega)
    have e1 : off V (j + 1) = off V j + A.length + 1 := by
      show off V j + (V j).length = _
      rw [e, List.length_append]
      rfl
    have e2 : lof a V (j + 1) = lof a V j + LC a j A + (lnk a j u).length := by
      show lof a V j + LC a j (V j) = _
      rw [e, LC_app, LC_cons, LC_nil]
      omega
    rw [e1, e2] at f
    exact f
  | cons w B' =>
    rw [eB] at e
    have := (h.1.2.2.2.2.2.2.1 j hj (A ++ [u]) w B' (by rw [e, List.append_assoc]; rfl)).1
    rw [len1, LC_app, LC_cons, LC_nil] at this
    rw [show off V j + A.length + 1 = off V j + (A.length + 1) by omega, this, Nat.add_zero, Nat.add_assoc]
theorem DG.node_lt {a : AS} {V : Nat → List Nat} {j n : Nat} (hj : j < n) {A B : List Nat} {u : Nat} (e : V j = A ++ u :: B) : off V j + A.length < off V n := by
  have hm := off_mono V (i := j + 1) n (by omega)
  have e1 : off V (j + 1) = off V j + (V j).length := rfl
  rw [e, List.length_append, List.length_cons] at e1
  omega
theorem DG.lk_lt {a : AS} {V : Nat → List Nat} {j n : Nat} (hj : j < n) {A B : List Nat} {u : Nat} (e : V j = A ++ u :: B) : lof a V j + LC a j A + (lnk a j u).length ≤ lof a V n := by
  have hm := lof_mono a V (i := j + 1) n (by omega)
  have e1 : lof a V (j + 1) = lof a V j + LC a j (V j) := rfl
  rw [e, LC_app, LC_cons] at e1
  omega
theorem DG.link {a : AS} {V : Nat → List Nat} {S : St} (h : DG a V S) {j : Nat} (hj : j < nR a) {A B : List Nat} {u : Nat} (e : V j = A ++ u :: B) {q : Nat} (hq : q < (lnk a j u).length) : ∃ k A' B', S.1 45 (lof a V j + LC a j A + q) = nI k ∧ k < (FA a (nR a)).length ∧ fillAt a (j, (lnk a j u).getD q 0) k S ∧ S.1 46 (lof a V j + LC a j A + q) = nI (off V (j + 1) + A'.length) ∧ V (j + 1) = A' ++ (u - tk ((lnk a j u).getD q 0)) :: B' := by
  obtain ⟨k, t, q1, q2, q3, q4, q5, q6⟩ := (h.1.2.2.2.2.2.2.1 j hj A u B e).2 q hq
  obtain ⟨A', B', s1, s2⟩ := split_at q5
  have hf := h.1.2.2.2.2.2.2.2.1.2.2.2 k q2
  rw [q3] at hf
  rw [q6] at s1
  exact ⟨k, A', B', q1, q2, hf, by rw [s2]; exact q4, s1⟩
theorem DG.mem {a : AS} {V : Nat → List Nat} {S : St} (h : DG a V S) {j : Nat} (hj : j ≤ nR a) {A B : List Nat} {u : Nat} (e : V j = A ++ u :: B) : Vd a (mY a j) u := (h.1.2.2.2.2.1 j hj).2.1 u (by rw [e]; simp)
def rwH (_ l : Nat) : Nat := rowW (dg l)
theorem rwH_end : rowW (dg 0) = 1 := by decide
/-- the two sums of the nodes from n on -/
def AHd (a : AS) (V : Nat → List Nat) (n : Nat) (S : St) : Prop := ∀ j A u B, j ≤ nR a → V j = A ++ u :: B → n ≤ off V j + A.length → S.2 47 (off V j + A.length) = lN (GT a (fun _ _ => 1) (4 - j) j u) ∧ S.2 48 (off V j + A.length) = lN (GT a rwH (4 - j) j u)
theorem node_un {V : Nat → List Nat} {j j' : Nat} {A A' B B' : List Nat} {u u' : Nat} (e : V j = A ++ u :: B) (e' : V j' = A' ++ u' :: B') (h : off V j + A.length = off V j' + A'.length) : j = j' ∧ u = u' := by
  have h1 : ∀ {i k A B u A' B' u'}, V i = A ++ u :: B → V k = A' ++ u' :: B' → i < k → off V i + A.length < off V k + A'.length := by
    intro i k A B u A' B' u' e e' hik
    have := DG.node_lt (a := default) (V := V) (n := k) hik e
    omega
  have hj : j = j' := by
    rcases Nat.lt_trichotomy j j' with c | c | c
    · have := h1 e e' c; omega
    · exact c
    · have := h1 e' e c; omega
  subst hj
  refine ⟨rfl, ?_⟩
  have hA : A.length = A'.length := by omega
  have g1 := getD_mid (A := A) (B := B) (u := u)
  have g2 := getD_mid (A := A') (B := B') (u := u')
  rw [← e] at g1
  rw [← e', ← hA] at g2
  rw [← g1, g2]
section AH
variable {g : GX} {d : Nat} {ρ : Rs} {S : St} {a : AS}
theorem sC_sumAhead {Q : St → Prop} (hρ : Ok ρ) (hF : ∀ k ∈ ([47, 48] : List Nat), gF g k) (hW : WF a) (hR : nR a ≠ 0) {V : Nat → List Nat} (hD : DG a V S) (h : ∀ S', AHd a V 0 S' → S'.1 = S.1 → (∀ k, k ≠ 47 → k ≠ 48 → S'.2 k = S.2 k) → Q S') : CALLv g (d + 3) mX1_sumAhead [.ref 31] ρ ρ S Q := by
  have hle := hW.le
  obtain ⟨cN, cL⟩ := hD.cap hW hR
  have hcapF := FA_cap hW hR
  refine eX1_sumAhead hρ ?_
  rw [hD.1.2.1, if_neg (show ¬ (480 : Int32) < nI (off V (nR a + 1)) from nI_nlt (a := 480) (by omega) (by omega))]
  have key : ∀ n S1, n ≤ off V (nR a + 1) → AHd a V n S1 → S1.1 = S.1 → (∀ k, k ≠ 47 → k ≠ 48 → S1.2 k = S.2 k) → AW g ρ (QV Q) (d + 3) mX1_sumAhead 13 [(0, .ref 31), (1, .int (nI n - 1))] [] ρ S1 := by
    intro n
    induction n with
    | zero =>
      intro S1 hn h1 h2 h3
      refine eX1_sumAhead_13 hρ ?_
      rw [if_pos (by decide)]
      exact h S1 h1 h2 h3
    | succ n ih =>
      intro S1 hn h1 h2 h3
      have hD1 : DG a V S1 := hD.of h2 (fun k hk => h3 k (by omega) (by omega))
      rw [show nI (n + 1) - 1 = nI n from pk_sub (b := 1) (by omega)]
      obtain ⟨j, A, u, B, hj, e, ek⟩ := node_dec V (nR a + 1) n (by omega)
      have hnl : n < 480 := by omega
      refine eX1_sumAhead_13 hρ ?_
      rw [if_neg (show ¬ nI n < (0 : Int32) from nI_nlt (b := 0) (by omega) (by omega)), hD1.1.1, nI_clamp (show nR a < 2 ^ 31 by omega), hD1.1.2.2.2.2.2.1 (nR a) (Nat.le_refl _)]
      have hoR := off_mono V (i := nR a) (nR a + 1) (by omega)
      have vn : vp_in (nI n) 480 := vp_in_nI hnl (by omega)
      have vn1 : vp_in (nI n) 481 := vp_in_nI (by omega) (by omega)
      have vn2 : vp_in (nI (n + 1)) 481 := vp_in_nI (by omega) (by omega)
      refine ⟨vp_in_nI (by omega) (by omega), nI_nlt (b := 0) (by omega) (by omega), nI_nlt (a := 480) (by omega) (by omega), ?_⟩
      -- behind the links
      have fin : ∀ v w : Int64, v = lN (GT a (fun _ _ => 1) (4 - j) j u) → w = lN (GT a rwH (4 - j) j u) → AW g ρ (QV Q) (d + 3) mX1_sumAhead 13 [(0, .ref 31), (1, .int (nI n + (-1)))] [] ρ (setL (setL S1 47 n v) 48 n w) := by
        intro v w k4 k5
        rw [show nI n + (-1) = nI n - 1 from (Int32.sub_eq_add_neg _ _).symm]
        have k3 : ∀ k i, i ≠ n → (setL (setL S1 47 n v) 48 n w).2 k i = S1.2 k i := fun k i c => by rw [setL_at, if_neg (fun z => c z.2), setL_at, if_neg (fun z => c z.2)]
        refine ih _ (by omega) (fun j' A' u' B' hj' e' hk => ?_) h2 (fun k c1 c2 => by rw [setL_ne _ _ _ c2, setL_ne _ _ _ c1]; exact h3 k c1 c2)
        by_cases c : off V j' + A'.length = n
        · obtain ⟨rfl, rfl⟩ := node_un e' e (by omega)
          rw [c, setL_ne _ _ _ (by decide), setL_at, if_pos ⟨rfl, rfl⟩, setL_at, if_pos ⟨rfl, rfl⟩]
          exact ⟨k4, k5⟩
        · rw [k3 47 _ c, k3 48 _ c]
          exact h1 j' A' u' B' hj' e' (by omega)
      by_cases cR : j = nR a
      · subst cR
        rw [if_pos (show nI (off V (nR a)) ≤ nI n from nI_le (by omega) (by omega))]
        refine eX1_sumAhead_30 hρ ?_
        rw [nI_1 n, nI_clamp (show n + 1 < 2 ^ 31 by omega), nI_clamp (show n < 2 ^ 31 by omega), hD1.2 n (by omega) (by omega), hD1.2 (n + 1) (by omega) (by omega)]
        refine ⟨vn2, nI_nlt (b := 0) (by omega) (by omega), nI_nlt (a := 4800) (by omega) (by omega), vn1, nI_nlt (b := 0) (by omega) (by omega), nI_nlt (a := 4800) (by omega) (by omega), ?_⟩
        refine eX1_sumAhead_50 hρ hF ?_
        rw [if_pos (nI_le (Nat.le_refl _) (by omega)), nI_clamp (show n < 2 ^ 31 by omega)]
        refine ⟨vn, vn, fin _ _ ?_ ?_⟩
        · rw [GT_end hW hR (fun _ _ => rfl) _ _ _ (Nat.le_refl _)]; rfl
        · rw [GT_end hW hR (fun _ _ => rwH_end) _ _ _ (Nat.le_refl _)]; rfl
      · have hj2 : j < nR a := by omega
        obtain ⟨f1, f2⟩ := hD1.first hj2 e
        have hlk := DG.lk_lt (a := a) hj2 e
        have hnR := DG.node_lt (a := a) hj2 e
        rw [if_neg (show ¬ nI (off V (nR a)) ≤ nI n from nI_ge (by omega) (by omega))]
        refine eX1_sumAhead_30 hρ ?_
        rw [nI_1 n, nI_clamp (show n + 1 < 2 ^ 31 by omega), nI_clamp (show n < 2 ^ 31 by omega), ek, f1, f2, ← ek]
        refine ⟨vn2, nI_nlt (b := 0) (by omega) (by omega), nI_nlt (a := 4800) (by omega) (by omega), vn1, nI_nlt (b := 0) (by omega) (by omega), nI_nlt (a := 4800) (by omega) (by omega), ?_⟩
        have loop : ∀ (R P : List Nat), lnk a j u = P ++ R → AW g ρ (QV Q) (d + 3) mX1_sumAhead 50 [(0, .ref 31), (1, .int (nI n)), (2, .long (lN (sml (fun l => 1 * GT a (fun _ _ => 1) (4 - (j + 1)) (j + 1) (u - tk l)) P))), (4, .long (lN (sml (fun l => rwH j l * GT a rwH (4 - (j + 1)) (j + 1) (u - tk l)) P))), (6, .int (nI (lof a V j + LC a j A + (lnk a j u).length))), (7, .int (nI (lof a V j + LC a j A + P.length)))] [] ρ S1 := by
          intro R
          induction R with
          | nil =>
            intro P eP
            rw [List.append_nil] at eP
            refine eX1_sumAhead_50 hρ hF ?_
            rw [← eP, if_pos (nI_le (Nat.le_refl _) (by omega)), nI_clamp (show n < 2 ^ 31 by omega)]
            refine ⟨vn, vn, fin _ _ ?_ ?_⟩
            · rw [show 4 - j = (4 - (j + 1)) + 1 by omega, GT_s]
            · rw [show 4 - j = (4 - (j + 1)) + 1 by omega, GT_s]
          | cons l R ihR =>
            intro P eP
            have hq : P.length < (lnk a j u).length := by rw [eP, List.length_append, List.length_cons]; omega
            have hgl : (lnk a j u).getD P.length 0 = l := by rw [eP]; exact getD_mid
            obtain ⟨k, A', B', l1, l2, l3, l4, l5⟩ := hD1.link hj2 e hq
            rw [hgl] at l3 l5
            have hto := DG.node_lt (a := a) (show j + 1 < nR a + 1 by omega) l5
            obtain ⟨t1, t2⟩ := h1 (j + 1) A' _ B' (by omega) l5 (by
              have := DG.node_lt (a := a) (show j < j + 1 by omega) e
              omega)
            refine eX1_sumAhead_50 hρ hF ?_
            rw [if_neg (nI_ge (by omega) (by omega)), nI_clamp (show lof a V j + LC a j A + P.length < 2 ^ 31 by omega), l1, l4, if_neg (show ¬ nI (off V (j + 1) + A'.length) < (0 : Int32) from nI_nlt (b := 0) (by omega) (by omega)), if_neg (show ¬ (480 : Int32) ≤ nI (off V (j + 1) + A'.length) from nI_ge (b := 480) (by omega) (by omega)), nI_clamp (show off V (j + 1) + A'.length < 2 ^ 31 by omega), nI_clamp (show k < 2 ^ 31 by omega), nI_1, t1, t2, l3.2.2.2.1, lN_mul, lN_add, lN_add]
            have v4 : vp_in (nI (lof a V j + LC a j A + P.length)) 4800 := vp_in_nI (by omega) (by omega)
            have vt : vp_in (nI (off V (j + 1) + A'.length)) 480 := vp_in_nI (by omega) (by omega)
            have vk : vp_in (nI k) 320 := vp_in_nI (by omega) (by omega)
            refine ⟨v4, vt, v4, vk, vt, ?_⟩
            have := ihR (P ++ [l]) (by rw [eP, List.append_assoc]; rfl)
            rw [len1, sml_app, sml_1, sml_app, sml_1, Nat.one_mul] at this
            exact this
        exact loop (lnk a j u) [] (List.nil_append _).symm
  refine key (off V (nR a + 1)) S (Nat.le_refl _) (fun j A u B hj e hk => ?_) rfl (fun _ _ _ => rfl)
  have := DG.node_lt (a := a) (show j < nR a + 1 by omega) e
  omega
end AH
