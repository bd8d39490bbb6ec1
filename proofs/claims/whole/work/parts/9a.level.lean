-- THE CLASS'S FIBER: a level of links
theorem FA_get {a : AS} {y j : Nat} (hj : j < (LL a y).length) : ∀ n, y < n → (FA a y).length + j < (FA a n).length ∧ (FA a n).getD ((FA a y).length + j) (0, 0) = (y, (LL a y).getD j 0)
  | 0, h => absurd h (by omega)
  | n + 1, h => by
    show (FA a y).length + j < (FA a n ++ pr2 n (LL a n)).length ∧ (FA a n ++ pr2 n (LL a n)).getD _ _ = _
    rw [List.length_append, pr2_len]
    by_cases c : y = n
    · subst c
      refine ⟨by omega, ?_⟩
      rw [List.getD_eq_getElem?_getD, List.getElem?_append_right (by omega), Nat.add_sub_cancel_left]
      unfold pr2
      rw [List.getElem?_map, List.getD_eq_getElem?_getD, List.getElem?_eq_getElem hj]
      rfl
    · obtain ⟨h1, h2⟩ := FA_get hj n (show y < n by omega)
      refine ⟨by omega, ?_⟩
      rw [gD_l h1, h2]
theorem getD_mid {A B : List Nat} {u : Nat} : (A ++ u :: B).getD A.length 0 = u := by
  rw [List.getD_eq_getElem?_getD, List.getElem?_append_right (Nat.le_refl _), Nat.sub_self]
  rfl
/-- a link stands in the store -/
def LO (a : AS) (y u l e b : Nat) (W : List Nat) (S : St) : Prop := ∃ k t, S.1 45 e = nI k ∧ k < (FA a (nR a)).length ∧ (FA a (nR a)).getD k (0, 0) = (y, l) ∧ S.1 46 e = nI (b + t) ∧ t < W.length ∧ W.getD t 0 = u - tk l
theorem LO.mono {a : AS} {y u l e b : Nat} {W W' : List Nat} {S S' : St} (h : LO a y u l e b W S) (hp : W <+: W') (h5 : S'.1 45 e = S.1 45 e) (h6 : S'.1 46 e = S.1 46 e) : LO a y u l e b W' S' := by
  obtain ⟨k, t, q1, q2, q3, q4, q5, q6⟩ := h
  obtain ⟨M, rfl⟩ := hp
  exact ⟨k, t, by rw [h5]; exact q1, q2, q3, by rw [h6]; exact q4, by rw [List.length_append]; omega, by rw [getD_l q5]; exact q6⟩
/-- a node with its links -/
def NP (a : AS) (y o m b : Nat) (W A : List Nat) (u : Nat) (S : St) : Prop := S.1 44 (o + A.length) = nI (m + LC a y A) ∧ ∀ q, q < (lnk a y u).length → LO a y u ((lnk a y u).getD q 0) (m + LC a y A + q) b W S
theorem LC_app (a : AS) (y : Nat) (A B : List Nat) : LC a y (A ++ B) = LC a y A + LC a y B := sml_app _ _ _
theorem LC_nil (a : AS) (y : Nat) : LC a y [] = 0 := by unfold LC; exact Eq.refl _
theorem LC_cons (a : AS) (y u : Nat) (B : List Nat) : LC a y (u :: B) = (lnk a y u).length + LC a y B := rfl
theorem fl_app (f : Nat → Bool) (P R : List Nat) (l : Nat) : (P ++ l :: R).filter f = P.filter f ++ (if f l = true then [l] else []) ++ R.filter f := by
  rw [List.filter_append, List.append_assoc]
  congr 1
  rw [List.filter_cons]
  split <;> rfl
section LV
variable {g : GX} {d : Nat} {ρ : Rs} {S : St} {a : AS}
theorem sC_linkLevel {Q : St → Prop} (hρ : Ok ρ) (hF : ∀ k ∈ ([31, 44, 45, 46, 50, 51, 52] : List Nat), gF g k) (hW : WF a) (hR : nR a ≠ 0) {y o b m : Nat} {V : List Nat} (hy : y < nR a) (hb : b = o + V.length) (hb480 : b ≤ 480) (e43 : S.1 43 y = nI o) (e43' : S.1 43 (y + 1) = nI b) (hNS : NS a o V S) (hVV : ∀ u, u ∈ V → Vd a (mY a y) u) (e2 : S.1 31 2 = nI b) (e14 : S.1 31 14 = nI m) (hFI : FIs a S) (capN : ∀ W' : List Nat, W'.Nodup → (∀ w, w ∈ W' → Vd a (mY a (y + 1)) w) → b + W'.length ≤ 480) (capL : m + LC a y V ≤ 4800)
    (h : ∀ S' W, W.Nodup → (∀ w, w ∈ W → Vd a (mY a (y + 1)) w) → NS a b W S' → S'.1 31 2 = nI (b + W.length) → S'.1 31 14 = nI (m + LC a y V) → (∀ A u B, V = A ++ u :: B → NP a y o m b W A u S') → GFr o b m S S' → Q S') : CALLv g (d + 7) mX1_linkLevel [.ref 31, .int (nI y)] ρ ρ S Q := by
  have hle := hW.le
  have ht := hW.told hR
  have hcapF := FA_cap hW hR
  have hF44 : ∀ k ∈ ([44] : List Nat), gF g k := fun k hk => hF k (by simp at hk; simp [hk])
  have hF6 : ∀ k ∈ ([31, 45, 46, 50, 51, 52] : List Nat), gF g k := fun k hk => hF k (by simp at hk; rcases hk with h | h | h | h | h | h <;> simp [h])
  refine eX1_linkLevel hρ ?_
  refine sJ_fill (n := 480) hρ (by decide) (by decide) rfl (by decide) (hF 52 (by simp)) (fun S0 z1 z2 z3 => ?_)
  have g0 : GFr o b m S S0 := ⟨fun k hk => (z2 k (fun z => hk (by omega))).1, z3, by rw [(z2 31 (by decide)).1], fun j _ => by rw [(z2 44 (by decide)).1], fun e _ => ⟨by rw [(z2 45 (by decide)).1], by rw [(z2 46 (by decide)).1]⟩, fun i _ => ⟨by rw [(z2 50 (by decide)).1], by rw [(z2 51 (by decide)).1]⟩⟩
  have r43 : ∀ {S'}, GFr o b m S S' → S'.1 43 y = nI o ∧ S'.1 43 (y + 1) = nI b := fun f => by rw [f.1 43 (by decide)]; exact ⟨e43, e43'⟩
  have rFI : ∀ {S'}, GFr o b m S S' → FIs a S' := by
    intro S' f
    have q := fun k hk => f.1 k hk
    unfold FIs FI fillAt
    rw [q 32 (by decide), q 33 (by decide), q 34 (by decide), q 35 (by decide), q 36 (by decide), q 42 (by decide), f.2.1]
    exact hFI
  have nn : ∀ {t : Nat}, t ≤ 480 → ¬ nI t < (0 : Int32) ∧ ¬ (480 : Int32) < nI t := fun {t} ht => ⟨nI_nlt (b := 0) (by omega) (by omega), nI_nlt (a := 480) (b := t) ht (by decide)⟩
  have no : o ≤ 480 := by omega
  rw [nI_1 y, nI_clamp (show y + 1 < 2 ^ 31 by omega), nI_clamp (show y < 2 ^ 31 by omega), (r43 g0).1, (r43 g0).2]
  refine ⟨vp_in_nI (by omega) (by omega), (nn hb480).1, (nn hb480).2, vp_in_nI (by omega) (by omega), (nn no).1, (nn no).2, ?_⟩
  have outer : ∀ (B A W : List Nat) S1, V = A ++ B → W.Nodup → (∀ w, w ∈ W → Vd a (mY a (y + 1)) w) → CI a b W S1 → NS a b W S1 → S1.1 31 2 = nI (b + W.length) → S1.1 31 14 = nI (m + LC a y A) → (∀ A' u B', A = A' ++ u :: B' → NP a y o m b W A' u S1) → GFr o b m S S1 → AW g ρ (QV Q) (d + 5 + 2) mX1_linkLevel 22 [(0, .ref 31), (1, .int (nI y)), (2, .int (nI b)), (3, .int (nI (o + A.length)))] [] ρ S1 := by
    intro B
    induction B with
    | nil =>
      intro A W S1 hA w1 w2 w3 w4 w5 w6 w7 w8
      rw [List.append_nil] at hA
      refine eX1_linkLevel_22 hρ hF44 ?_
      rw [if_pos (by rw [hb, hA]; exact nI_le (Nat.le_refl _) (by rw [← hA]; omega))]
      rw [hA] at h
      exact h S1 W w1 w2 w4 w5 w6 w7 w8
    | cons u B ihB =>
      intro A W S1 hA w1 w2 w3 w4 w5 w6 w7 w8
      have hlen : A.length + (B.length + 1) = V.length := by rw [hA, List.length_append, List.length_cons]
      have hLC : LC a y V = LC a y A + ((lnk a y u).length + LC a y B) := by rw [hA, LC_app, LC_cons]
      have huV : u ∈ V := by rw [hA]; simp
      have hu := hVV u huV
      have hgu : V.getD A.length 0 = u := by rw [hA]; exact getD_mid
      refine eX1_linkLevel_22 hρ hF44 ?_
      have hnsu : S1.1 50 (o + A.length) = nI u ∧ S1.1 51 (o + A.length) = nI (cdu a u) := by
        have q := w8.2.2.2.2.2 (o + A.length) (by omega)
        have z := hNS A.length (by omega)
        rw [hgu] at z
        rw [q.1, q.2]
        exact z
      rw [if_neg (nI_ge (by omega) (by omega)), nI_clamp (show o + A.length < 2 ^ 31 by omega), w6, hnsu.1, hnsu.2, nI_1 (o + A.length)]
      refine ⟨vp_in_nI (by omega) (by omega), vp_in_nI (by omega) (by omega), vp_in_nI (by omega) (by omega), ?_⟩
      -- the fills
      have inner : ∀ (Rr P W' : List Nat) S2, LL a y = P ++ Rr → W <+: W' → W'.Nodup → (∀ w, w ∈ W' → Vd a (mY a (y + 1)) w) → CI a b W' S2 → NS a b W' S2 → S2.1 31 2 = nI (b + W'.length) → S2.1 31 14 = nI (m + LC a y A + (P.filter (fts u)).length) → (∀ A' u B', A = A' ++ u :: B' → NP a y o m b W' A' u S2) → S2.1 44 (o + A.length) = nI (m + LC a y A) → (∀ q, q < (P.filter (fts u)).length → LO a y u ((P.filter (fts u)).getD q 0) (m + LC a y A + q) b W' S2) → GFr o b m S S2 → AW g ρ (QV (fun S3 => AW g ρ (QV Q) (d + 5 + 2) mX1_linkLevel 22 [(0, .ref 31), (1, .int (nI y)), (2, .int (nI b)), (3, .int (nI (o + A.length + 1)))] [] ρ S3)) (d + 4 + 2) mX1_linkNode 22 [(0, .ref 31), (2, .int (nI u ||| 8521760)), (3, .int (nI (cdu a u))), (4, .int (nI ((FA a y).length + (LL a y).length))), (5, .int (nI ((FA a y).length + P.length)))] [] ρ S2 := by
        intro Rr
        induction Rr with
        | nil =>
          intro P W' S2 hP w0' w1' w2' w3' w4' w5' w6' w7' w9' w10' w8'
          rw [List.append_nil] at hP
          refine eX1_linkNode_22 hρ ?_
          have hl1 : (FA a (y + 1)).length = (FA a y).length + (LL a y).length := by
            show (FA a y ++ pr2 y (LL a y)).length = _
            rw [List.length_append, pr2_len]
          have hl2 := FA_mono a (m := y + 1) (nR a) (by omega)
          rw [← hP, if_pos (nI_le (Nat.le_refl _) (by omega))]
          have hlk : P.filter (fts u) = lnk a y u := by rw [← hP]; rfl
          rw [hlk] at w6' w10'
          have := ihB (A ++ [u]) W' S2 (by rw [hA, List.append_assoc]; rfl) w1' w2' w3' w4' w5' (by rw [LC_app, LC_cons, LC_nil, Nat.add_zero, w6', Nat.add_assoc]) (fun A' u' B' e => ?_) w8'
          · rw [len1, show o + (A.length + 1) = o + A.length + 1 by omega] at this
            exact this
          · by_cases cB : B' = []
            · subst cB
              have e2 := List.append_inj_right' e rfl
              have e3 := List.append_inj_left' e rfl
              have e4 : u = u' := by
                have := List.cons.inj e2
                exact this.1
              rw [← e3, ← e4]
              exact ⟨w9', w10'⟩
            · obtain ⟨B'', z, rfl⟩ : ∃ B'' z, B' = B'' ++ [z] := ⟨B'.dropLast, B'.getLast cB, (List.dropLast_concat_getLast cB).symm⟩
              rw [show A' ++ u' :: (B'' ++ [z]) = (A' ++ u' :: B'') ++ [z] by simp] at e
              exact w7' A' u' B'' (List.append_inj_left' e rfl)
        | cons l Rr ihR =>
          intro P W' S2 hP w0' w1' w2' w3' w4' w5' w6' w7' w9' w10' w8'
          have hF2 := rFI w8'
          have hlL : l ∈ LL a y := by rw [hP]; simp
          have hjl : P.length < (LL a y).length := by rw [hP, List.length_append, List.length_cons]; omega
          have hgl : (LL a y).getD P.length 0 = l := by rw [hP]; exact getD_mid
          obtain ⟨f1, f2⟩ := FA_get hjl (nR a) hy
          rw [hgl] at f2
          have hfa := hF2.1.2.2.2 _ f1
          rw [f2] at hfa
          have hl1 : (FA a (y + 1)).length = (FA a y).length + (LL a y).length := by
            show (FA a y ++ pr2 y (LL a y)).length = _
            rw [List.length_append, pr2_len]
          have hl2 := FA_mono a (m := y + 1) (nR a) (by omega)
          have hfl : lnk a y u = P.filter (fts u) ++ (if fts u l = true then [l] else []) ++ Rr.filter (fts u) := by
            show (LL a y).filter (fts u) = _
            rw [hP, fl_app]
          have hfl2 := congrArg List.length hfl
          rw [List.length_append, List.length_append] at hfl2
          have hP1 : ∀ c, fts u l = c → (P ++ [l]).filter (fts u) = P.filter (fts u) ++ (if c = true then [l] else []) := fun c hc => by
            rw [List.filter_append, List.filter_cons, hc]
            split <;> rfl
          refine eX1_linkNode_22 hρ ?_
          rw [if_neg (nI_ge (by omega) (by omega)), nI_clamp (show (FA a y).length + P.length < 2 ^ 31 by omega), hfa.2.1, hfa.2.2.1, nI_1 ((FA a y).length + P.length)]
          have vfl : vp_in (nI ((FA a y).length + P.length)) 320 := vp_in_nI (by omega) (by omega)
          refine ⟨vfl, ?_⟩
          cases cf : fts u l with
          | false =>
            rw [if_neg (lk_no ht hu cf)]
            have e := hP1 false cf
            rw [if_neg (by decide), List.append_nil] at e
            have := ihR (P ++ [l]) W' S2 (by rw [hP, List.append_assoc]; rfl) w0' w1' w2' w3' w4' w5' (by rw [e]; exact w6') w7' w9' (by rw [e]; exact w10') w8'
            rw [len1] at this
            exact this
          | true =>
            obtain ⟨y1, y2, y3⟩ := lk_yes (a := a) ht hu cf
            rw [if_pos y1, y2, y3]
            rw [if_pos cf] at hfl2
            have hone : ([l] : List Nat).length = 1 := rfl
            refine ⟨vfl, ?_⟩
            refine sC_link hρ hF6 ht (show y < 4 by omega) hu hlL cf (by omega) w5' w6' w3' w4' w1' w2' capN (by omega) (fun S3 W3 t x1 x2 x3 x4 x5 x6 x7 x8 x9 x10 x11 x12 x13 => ?_)
            have e := hP1 true cf
            rw [if_pos rfl] at e
            have gd : GFr o b m S S3 := by
              refine GFr.tr w8' ?_ (Nat.le_refl o) (Nat.le_refl b) (show m ≤ m + LC a y A + (P.filter (fts u)).length by omega)
              exact ⟨x12.1, x12.2.1, x12.2.2.1, fun j _ => x13 j, x12.2.2.2.2.1, x12.2.2.2.2.2⟩
            have lom : ∀ {y' u' l' e'}, e' < m + LC a y A + (P.filter (fts u)).length → LO a y' u' l' e' b W' S2 → LO a y' u' l' e' b W3 S3 := fun he lo => lo.mono x1 (x12.2.2.2.2.1 _ he).1 (x12.2.2.2.2.1 _ he).2
            have := ihR (P ++ [l]) W3 S3 (by rw [hP, List.append_assoc]; rfl) (List.IsPrefix.trans w0' x1) x2 x3 x4 x5 x6 (by rw [e, len1]; rw [x7]; congr 1) (fun A' u' B' eA => ?_) (by rw [x13]; exact w9') (fun q hq => ?_) gd
            · rw [len1] at this
              exact this
            · obtain ⟨n1, n2⟩ := w7' A' u' B' eA
              have hlc : LC a y A = LC a y A' + ((lnk a y u').length + LC a y B') := by rw [eA, LC_app, LC_cons]
              refine ⟨by rw [x13]; exact n1, fun q hq => lom (by omega) (n2 q hq)⟩
            · rw [e, len1] at hq
              rw [e]
              by_cases cq : q = (P.filter (fts u)).length
              · rw [cq, getD_e]
                exact ⟨(FA a y).length + P.length, t, x8, f1, f2, x9, x10, x11⟩
              · rw [getD_l (by omega)]
                exact lom (by omega) (w10' q (by omega))
      have gS : GFr o b m S (setI S1 44 (o + A.length) (nI (m + LC a y A))) := by
        refine GFr.tr w8 ⟨fun k hk => setI_ne _ _ _ (by omega), rfl, by rw [setI_ne _ _ _ (by decide)], fun j hj => ?_, fun e _ => by rw [setI_ne _ _ _ (by decide), setI_ne _ _ _ (by decide)]; exact ⟨rfl, rfl⟩, fun i _ => by rw [setI_ne _ _ _ (by decide), setI_ne _ _ _ (by decide)]; exact ⟨rfl, rfl⟩⟩ (show o ≤ o + A.length by omega) (Nat.le_refl b) (Nat.le_refl m)
        rw [setI_at, if_neg (by omega)]
      have st := inner (LL a y) [] W (setI S1 44 (o + A.length) (nI (m + LC a y A))) (List.nil_append _).symm (List.prefix_refl _) w1 w2 ?_ ?_ ?_ ?_ ?_ ?_ (fun q hq => absurd hq (by simp)) gS
      · have hFS := rFI gS
        have hl1 : (FA a (y + 1)).length = (FA a y).length + (LL a y).length := by
          show (FA a y ++ pr2 y (LL a y)).length = _
          rw [List.length_append, pr2_len]
        have hl2 := FA_mono a (m := y + 1) (nR a) (by omega)
        refine eX1_linkNode hρ ?_
        rw [nI_1 y, nI_clamp (show y + 1 < 2 ^ 31 by omega), nI_clamp (show y < 2 ^ 31 by omega), hFS.2 (y + 1) (by omega), hFS.2 y (by omega), hl1]
        refine ⟨vp_in_nI (by omega) (by omega), nI_nlt (b := 0) (by omega) (by omega), nI_nlt (a := 320) (by omega) (by omega), vp_in_nI (by omega) (by omega), nI_nlt (b := 0) (by omega) (by omega), nI_nlt (a := 320) (by omega) (by omega), ?_⟩
        exact st
      · intro c hc
        rw [setI_ne _ _ _ (by decide)]
        exact w3 c hc
      · intro t ht
        rw [setI_ne _ _ _ (by decide), setI_ne _ _ _ (by decide)]
        exact w4 t ht
      · rw [setI_ne _ _ _ (by decide)]; exact w5
      · rw [setI_ne _ _ _ (by decide)]; exact w6
      · intro A' u' B' eA
        obtain ⟨n1, n2⟩ := w7 A' u' B' eA
        have hlt : A'.length < A.length := by rw [eA, List.length_append, List.length_cons]; omega
        refine ⟨?_, fun q hq => (n2 q hq).mono (List.prefix_refl _) ?_ ?_⟩
        · rw [setI_at, if_neg (by omega)]; exact n1
        · rw [setI_ne _ _ _ (by decide)]
        · rw [setI_ne _ _ _ (by decide)]
      · rw [setI_at, if_pos ⟨rfl, rfl⟩]
  refine outer V [] [] S0 rfl List.nodup_nil (fun w hw => absurd hw (by simp)) (fun c hc => Or.inl ⟨z1 c hc, fun t ht => absurd ht (by simp)⟩) (fun t ht => absurd ht (by simp)) ?_ ?_ (fun A' u B' e => absurd e (by simp)) g0
  · rw [(z2 31 (by decide)).1]; exact e2
  · rw [(z2 31 (by decide)).1]; exact e14
end LV
