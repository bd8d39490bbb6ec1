-- THE CLASS'S FIBER: one link
theorem Vd.sub {a : AS} {y u l : Nat} (hy : y < 4) (hu : Vd a (mY a y) u) (hl : l ∈ LL a y) (hf : fts u l = true) : Vd a (mY a (y + 1)) (u - tk l) := by
  obtain ⟨u1, u2, u3⟩ := hu
  obtain ⟨s1, s2, s3⟩ := fts_sub u1 hf
  obtain ⟨-, l2, -⟩ := LL_dg hl
  rw [fts_iff] at hf
  refine ⟨s2, fun x hx => ?_, ?_⟩
  · rw [s3 x hx]
    have := u2 x hx
    omega
  · rw [(mY_s hy).1, ← u3, ← l2]
    unfold s4
    rw [s3 0 (by omega), s3 1 (by omega), s3 2 (by omega), s3 3 (by omega)]
    have := hf 0 (by omega); have := hf 1 (by omega); have := hf 2 (by omega); have := hf 3 (by omega)
    omega
theorem cdS_add {a : AS} {f f' h : Nat → Nat} (e : ∀ x, x < 4 → f x = f' x + h x) : ∀ n, n ≤ 4 → cdS a f n = cdS a f' n + cdS a h n
  | 0, _ => rfl
  | n + 1, hn => by
    have ih := cdS_add (a := a) e n (by omega)
    show cdS a f n + f n * strd a n = cdS a f' n + f' n * strd a n + (cdS a h n + h n * strd a n)
    rw [ih, e n (by omega), Nat.add_mul]
    omega
theorem cdu_sub {a : AS} {u l : Nat} (hu : u < topU) (hf : fts u l = true) : cdu a u = cdu a (u - tk l) + cdd a l := by
  obtain ⟨s1, s2, s3⟩ := fts_sub hu hf
  rw [fts_iff] at hf
  refine cdS_add (fun x hx => ?_) 4 (Nat.le_refl _)
  rw [s3 x hx]
  have := hf x hx
  omega
/-- the nodes of the next level by their codes -/
def CI (a : AS) (b : Nat) (W : List Nat) (S : St) : Prop := ∀ c, c < 480 → (S.1 52 c = -1 ∧ ∀ t, t < W.length → cdu a (W.getD t 0) ≠ c) ∨ ∃ t, t < W.length ∧ S.1 52 c = nI (b + t) ∧ cdu a (W.getD t 0) = c
/-- nodes in the store -/
def NS (a : AS) (b : Nat) (W : List Nat) (S : St) : Prop := ∀ t, t < W.length → S.1 50 (b + t) = nI (W.getD t 0) ∧ S.1 51 (b + t) = nI (cdu a (W.getD t 0))
/-- what a level of links leaves as it was -/
def GFr (o b m : Nat) (S S' : St) : Prop := (∀ k, ¬ (k = 31 ∨ k = 44 ∨ k = 45 ∨ k = 46 ∨ k = 50 ∨ k = 51 ∨ k = 52) → S'.1 k = S.1 k) ∧ S'.2 = S.2 ∧ S'.1 31 1 = S.1 31 1 ∧ (∀ j, j < o → S'.1 44 j = S.1 44 j) ∧ (∀ e, e < m → S'.1 45 e = S.1 45 e ∧ S'.1 46 e = S.1 46 e) ∧ ∀ i, i < b → S'.1 50 i = S.1 50 i ∧ S'.1 51 i = S.1 51 i
theorem GFr.rf (o b m : Nat) (S : St) : GFr o b m S S := ⟨fun _ _ => rfl, rfl, rfl, fun _ _ => rfl, fun _ _ => ⟨rfl, rfl⟩, fun _ _ => ⟨rfl, rfl⟩⟩
theorem GFr.tr {o b m o' b' m' : Nat} {S S1 S2 : St} (h : GFr o b m S S1) (h2 : GFr o' b' m' S1 S2) (ho : o ≤ o') (hb : b ≤ b') (hm : m ≤ m') : GFr o b m S S2 := by
  obtain ⟨a1, a2, a3, a4, a5, a6⟩ := h
  obtain ⟨b1, b2, b3, b4, b5, b6⟩ := h2
  exact ⟨fun k hk => (b1 k hk).trans (a1 k hk), b2.trans a2, b3.trans a3, fun j hj => (b4 j (by omega)).trans (a4 j hj), fun e he => ⟨(b5 e (by omega)).1.trans (a5 e he).1, (b5 e (by omega)).2.trans (a5 e he).2⟩, fun i hi => ⟨(b6 i (by omega)).1.trans (a6 i hi).1, (b6 i (by omega)).2.trans (a6 i hi).2⟩⟩
section LN
variable {g : GX} {d : Nat} {ρ : Rs} {S : St} {a : AS}
theorem vd32 (h : Told a) {y u : Nat} (hu : Vd a (mY a y) u) : ∀ x, lf u x < 32 := by
  obtain ⟨u1, u2, u3⟩ := hu
  have hs := h.sums.2
  intro x
  by_cases cx : x < 4
  · have := u2 x cx
    have := hs x
    omega
  · unfold lf
    rw [if_neg cx]
    omega
theorem lk_no (h : Told a) {y u l : Nat} (hu : Vd a (mY a y) u) (cf : fts u l = false) : ¬ ((nI u ||| 8521760) - nI (tk l)) &&& 8521760 = 8521760 :=
  fun z => by have := (guard_fit hu.1 (vd32 h hu)).mp z; rw [cf] at this; exact absurd this (by decide)
theorem lk_yes (h : Told a) {y u l : Nat} (hu : Vd a (mY a y) u) (cf : fts u l = true) : ((nI u ||| 8521760) - nI (tk l)) &&& 8521760 = 8521760 ∧ ((nI u ||| 8521760) - nI (tk l)) &&& (-8521761) = nI (u - tk l) ∧ nI (cdu a u) - nI (cdd a l) = nI (cdu a (u - tk l)) := by
  refine ⟨(guard_fit hu.1 (vd32 h hu)).mpr cf, guard_sub hu.1 (vd32 h hu) cf, ?_⟩
  have := cdu_sub (a := a) hu.1 cf
  rw [pk_sub (by omega)]
  congr 1
  omega
theorem sC_link {Q : St → Prop} (hρ : Ok ρ) (hF : ∀ k ∈ ([31, 45, 46, 50, 51, 52] : List Nat), gF g k) (h : Told a) {y u l fill b m : Nat} {W : List Nat} (hy : y < 4) (hu : Vd a (mY a y) u) (hl : l ∈ LL a y) (cf : fts u l = true) (hfill : fill < 320) (e2 : S.1 31 2 = nI (b + W.length)) (e14 : S.1 31 14 = nI m) (hci : CI a b W S) (hns : NS a b W S) (hn : W.Nodup) (hV : ∀ w, w ∈ W → Vd a (mY a (y + 1)) w) (capN : ∀ W' : List Nat, W'.Nodup → (∀ w, w ∈ W' → Vd a (mY a (y + 1)) w) → b + W'.length ≤ 480) (hm : m < 4800)
    (h1 : ∀ S' (W' : List Nat) t, W <+: W' → W'.Nodup → (∀ w, w ∈ W' → Vd a (mY a (y + 1)) w) → CI a b W' S' → NS a b W' S' → S'.1 31 2 = nI (b + W'.length) → S'.1 31 14 = nI (m + 1) → S'.1 45 m = nI fill → S'.1 46 m = nI (b + t) → t < W'.length → W'.getD t 0 = u - tk l → GFr 480 b m S S' → (∀ j, S'.1 44 j = S.1 44 j) → Q S') : CALLv g (d + 5) mX1_link [.ref 31, .int (nI fill), .int (nI (u - tk l)), .int (nI (cdu a (u - tk l)))] ρ ρ S Q := by
    have hF52 : ∀ k ∈ ([52] : List Nat), gF g k := fun k hk => hF k (by simp at hk; simp [hk])
    have hF3 : ∀ k ∈ ([45, 46, 31] : List Nat), gF g k := fun k hk => hF k (by simp at hk; rcases hk with h | h | h <;> simp [h])
    have hF5 : ∀ k ∈ ([50, 51, 31] : List Nat), gF g k := fun k hk => hF k (by simp at hk; rcases hk with h | h | h <;> simp [h])
    have capW := capN W hn hV
    have hw := Vd.sub hy hu hl cf
    have hc := cdu_lt h hw
    refine eX1_link hρ hF52 ?_
    rw [e14, if_neg (show ¬ nI m < (0 : Int32) from nI_nlt (b := 0) (by omega) (by omega)), if_neg (show ¬ (4800 : Int32) ≤ nI m from nI_ge (b := 4800) (by omega) (by omega)), if_neg (show ¬ nI (cdu a (u - tk l)) < (0 : Int32) from nI_nlt (b := 0) (by omega) (by omega)), if_pos (show nI (cdu a (u - tk l)) < (480 : Int32) from nI_lt (b := 480) (by omega) (by omega)), nI_clamp (show cdu a (u - tk l) < 2 ^ 31 by omega)]
    have vc : vp_in (nI (cdu a (u - tk l))) 480 := vp_in_nI hc (by omega)
    refine ⟨vc, ?_⟩
    have h1' := h1
    have hwd : ∀ t, t < W.length → cdu a (W.getD t 0) = cdu a (u - tk l) → W.getD t 0 = u - tk l := by
      intro t ht e
      refine cdu_inj h (hV _ ?_) hw e
      rw [List.getD_eq_getElem?_getD, List.getElem?_eq_getElem ht]
      exact List.getElem_mem ht
    rcases hci _ hc with ⟨k1, k2⟩ | ⟨t, t1, t2, t3⟩
    · rw [if_pos k1]
      have hnin : u - tk l ∉ W := by
        intro z
        obtain ⟨t, ht, e⟩ := List.getElem_of_mem z
        refine k2 t ht ?_
        rw [List.getD_eq_getElem?_getD, List.getElem?_eq_getElem ht]
        show cdu a W[t] = _
        rw [e]
      have hn' : (W ++ [u - tk l]).Nodup := by
        rw [List.nodup_append]
        refine ⟨hn, by simp, fun p hp q hq e => ?_⟩
        rw [List.mem_singleton] at hq
        rw [e, hq] at hp
        exact hnin hp
      have hV' : ∀ w, w ∈ W ++ [u - tk l] → Vd a (mY a (y + 1)) w := by
        intro w hw2
        rcases List.mem_append.mp hw2 with z | z
        · exact hV w z
        · rw [List.mem_singleton.mp z]; exact hw
      have cap2 := capN _ hn' hV'
      rw [len1] at cap2
      refine eX1_addNode hρ hF5 ?_
      rw [e2, nI_clamp (show b + W.length < 2 ^ 31 by omega), nI_1]
      refine ⟨nI_nlt (b := 0) (by omega) (by omega), nI_nlt (a := 479) (by omega) (by omega), vp_in_nI (by omega) (by omega), vp_in_nI (by omega) (by omega), vc, ?_⟩
      refine eX1_link_51 hρ hF3 ?_
      rw [nI_clamp (show cdu a (u - tk l) < 2 ^ 31 by omega)]
      have q14 : (setI (setI (setI (setI S 50 (b + W.length) (nI (u - tk l))) 51 (b + W.length) (nI (cdu a (u - tk l)))) 31 2 (nI (b + W.length + 1))) 52 (cdu a (u - tk l)) (nI (b + W.length))).1 31 14 = nI m := by
        rw [setI_ne _ _ _ (by decide), setI_at, if_neg (by omega), setI_ne _ _ _ (by decide), setI_ne _ _ _ (by decide)]; exact e14
      rw [q14, nI_clamp (show m < 2 ^ 31 by omega), nI_1]
      have vm : vp_in (nI m) 4800 := vp_in_nI hm (by omega)
      refine ⟨vm, vc, vm, ?_⟩
      refine h1' _ (W ++ [u - tk l]) W.length (List.prefix_append _ _) hn' hV' ?_ ?_ ?_ ?_ ?_ ?_ ?_ ?_ ?_ ?_
      · intro c hc2
        rw [setI_ne _ _ _ (by decide), setI_ne _ _ _ (by decide), setI_ne _ _ _ (by decide), setI_at]
        by_cases cc : c = cdu a (u - tk l)
        · right
          refine ⟨W.length, by rw [len1]; omega, ?_, ?_⟩
          · rw [if_pos ⟨rfl, cc⟩]
          · rw [getD_e, cc]
        · rw [if_neg (fun z => cc z.2), setI_ne _ _ _ (by decide), setI_ne _ _ _ (by decide), setI_ne _ _ _ (by decide)]
          rcases hci c hc2 with ⟨q1, q2⟩ | ⟨t, q1, q2, q3⟩
          · left
            refine ⟨q1, fun t ht => ?_⟩
            rw [len1] at ht
            by_cases ct : t = W.length
            · rw [ct, getD_e]; exact fun z => cc z.symm
            · rw [getD_l (by omega)]; exact q2 t (by omega)
          · right
            exact ⟨t, by rw [len1]; omega, q2, by rw [getD_l q1]; exact q3⟩
      · intro t ht
        rw [len1] at ht
        rw [setI_ne _ _ _ (by decide), setI_ne _ _ _ (by decide), setI_ne _ _ _ (by decide), setI_ne _ _ _ (by decide), setI_ne _ _ _ (by decide), setI_ne _ _ _ (by decide), setI_at, setI_ne _ _ _ (by decide), setI_ne _ _ _ (by decide), setI_ne _ _ _ (by decide), setI_ne _ _ _ (by decide), setI_ne _ _ _ (by decide), setI_at, setI_ne _ _ _ (by decide)]
        by_cases ct : t = W.length
        · rw [if_pos ⟨rfl, by rw [ct]⟩, if_pos ⟨rfl, by rw [ct]⟩, ct, getD_e]
          exact ⟨rfl, rfl⟩
        · rw [if_neg (by omega), if_neg (by omega), getD_l (by omega)]
          exact hns t (by omega)
      · rw [setI_at, if_neg (by omega), setI_ne _ _ _ (by decide), setI_ne _ _ _ (by decide), setI_ne _ _ _ (by decide), setI_at, if_pos ⟨rfl, rfl⟩, len1]; rfl
      · rw [setI_at, if_pos ⟨rfl, rfl⟩]
      · rw [setI_ne _ _ _ (by decide), setI_ne _ _ _ (by decide), setI_at, if_pos ⟨rfl, rfl⟩]
      · rw [setI_ne _ _ _ (by decide), setI_at, if_pos ⟨rfl, rfl⟩, setI_at, if_pos ⟨rfl, rfl⟩]
      · rw [len1]; omega
      · exact getD_e
      · refine ⟨fun k hk => ?_, rfl, ?_, fun j hj => ?_, fun e he => ?_, fun i hi => ?_⟩
        · rw [setI_ne _ _ _ (by omega), setI_ne _ _ _ (by omega), setI_ne _ _ _ (by omega), setI_ne _ _ _ (by omega), setI_ne _ _ _ (by omega), setI_ne _ _ _ (by omega), setI_ne _ _ _ (by omega)]
        · rw [setI_at, if_neg (by omega), setI_ne _ _ _ (by decide), setI_ne _ _ _ (by decide), setI_ne _ _ _ (by decide), setI_at, if_neg (by omega), setI_ne _ _ _ (by decide), setI_ne _ _ _ (by decide)]
        · rw [setI_ne _ _ _ (by decide), setI_ne _ _ _ (by decide), setI_ne _ _ _ (by decide), setI_ne _ _ _ (by decide), setI_ne _ _ _ (by decide), setI_ne _ _ _ (by decide), setI_ne _ _ _ (by decide)]
        · rw [setI_ne _ _ _ (by decide), setI_ne _ _ _ (by decide), setI_at, if_neg (by omega), setI_ne _ _ _ (by decide), setI_ne _ _ _ (by decide), setI_ne _ _ _ (by decide), setI_ne _ _ _ (by decide), setI_ne _ _ _ (by decide), setI_at, if_neg (by omega), setI_ne _ _ _ (by decide), setI_ne _ _ _ (by decide), setI_ne _ _ _ (by decide), setI_ne _ _ _ (by decide), setI_ne _ _ _ (by decide)]
          exact ⟨rfl, rfl⟩
        · rw [setI_ne _ _ _ (by decide), setI_ne _ _ _ (by decide), setI_ne _ _ _ (by decide), setI_ne _ _ _ (by decide), setI_ne _ _ _ (by decide), setI_ne _ _ _ (by decide), setI_at, if_neg (by omega), setI_ne _ _ _ (by decide), setI_ne _ _ _ (by decide), setI_ne _ _ _ (by decide), setI_ne _ _ _ (by decide), setI_ne _ _ _ (by decide), setI_at, if_neg (by omega), setI_ne _ _ _ (by decide)]
          exact ⟨rfl, rfl⟩
      · intro j
        rw [setI_ne _ _ _ (by decide), setI_ne _ _ _ (by decide), setI_ne _ _ _ (by decide), setI_ne _ _ _ (by decide), setI_ne _ _ _ (by decide), setI_ne _ _ _ (by decide), setI_ne _ _ _ (by decide)]
    · have hlt : b + t < 2 ^ 31 := by omega
      rw [if_neg (by
        rw [t2]
        intro z
        have z2 := congrArg Int32.toInt z
        rw [nI_toInt hlt] at z2
        have : (-1 : Int32).toInt = -1 := rfl
        omega)]
      refine eX1_link_51 hρ hF3 ?_
      rw [e14, nI_clamp (show m < 2 ^ 31 by omega), nI_clamp (show cdu a (u - tk l) < 2 ^ 31 by omega), nI_1, t2]
      have vm : vp_in (nI m) 4800 := vp_in_nI hm (by omega)
      refine ⟨vm, vc, vm, ?_⟩
      refine h1' _ W t (List.prefix_refl _) hn hV ?_ ?_ ?_ ?_ ?_ ?_ t1 (hwd t t1 t3) ?_ ?_
      · intro c hc2
        rw [setI_ne _ _ _ (by decide), setI_ne _ _ _ (by decide), setI_ne _ _ _ (by decide)]
        exact hci c hc2
      · intro t ht
        rw [setI_ne _ _ _ (by decide), setI_ne _ _ _ (by decide), setI_ne _ _ _ (by decide), setI_ne _ _ _ (by decide), setI_ne _ _ _ (by decide), setI_ne _ _ _ (by decide)]
        exact hns t ht
      · rw [setI_at, if_neg (by omega), setI_ne _ _ _ (by decide), setI_ne _ _ _ (by decide)]; exact e2
      · rw [setI_at, if_pos ⟨rfl, rfl⟩]
      · rw [setI_ne _ _ _ (by decide), setI_ne _ _ _ (by decide), setI_at, if_pos ⟨rfl, rfl⟩]
      · rw [setI_ne _ _ _ (by decide), setI_at, if_pos ⟨rfl, rfl⟩]
      · refine ⟨fun k hk => ?_, rfl, ?_, fun j hj => ?_, fun e he => ?_, fun i hi => ?_⟩
        · rw [setI_ne _ _ _ (by omega), setI_ne _ _ _ (by omega), setI_ne _ _ _ (by omega)]
        · rw [setI_at, if_neg (by omega), setI_ne _ _ _ (by decide), setI_ne _ _ _ (by decide)]
        · rw [setI_ne _ _ _ (by decide), setI_ne _ _ _ (by decide), setI_ne _ _ _ (by decide)]
        · rw [setI_ne _ _ _ (by decide), setI_ne _ _ _ (by decide), setI_at, if_neg (by omega), setI_ne _ _ _ (by decide), setI_at, if_neg (by omega), setI_ne _ _ _ (by decide)]
          exact ⟨rfl, rfl⟩
        · rw [setI_ne _ _ _ (by decide), setI_ne _ _ _ (by decide), setI_ne _ _ _ (by decide), setI_ne _ _ _ (by decide), setI_ne _ _ _ (by decide), setI_ne _ _ _ (by decide)]
          exact ⟨rfl, rfl⟩
      · intro j
        rw [setI_ne _ _ _ (by decide), setI_ne _ _ _ (by decide), setI_ne _ _ _ (by decide)]
end LN
