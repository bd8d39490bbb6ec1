def kvf (e : Nat) (f v : Nat → Nat) : List Nat := [f 0 + e + 21 * v 0, f 1 + 21 * v 1, f 2 + 21 * v 2, f 3 + 21 * v 3]
theorem kvf_lsm (e : Nat) (f v : Nat → Nat) : lsm (kvf e f v) = s4 f + e + 21 * s4 v := by
  show f 0 + e + 21 * v 0 + (f 1 + 21 * v 1 + (f 2 + 21 * v 2 + (f 3 + 21 * v 3 + 0))) = _
  unfold s4
  omega
theorem kvf_inj {e : Nat} {f v f' v' : Nat → Nat} (h : kvf e f v = kvf e f' v') (hf : ∀ x, x < 4 → f x + e ≤ 20) (hf' : ∀ x, x < 4 → f' x + e ≤ 20) : ∀ x, x < 4 → f x = f' x ∧ v x = v' x := by
  unfold kvf at h
  simp only [List.cons.injEq] at h
  obtain ⟨h0, h1, h2, h3, -⟩ := h
  intro x hx
  have b := hf x hx
  have b' := hf' x hx
  rcases (show x = 0 ∨ x = 1 ∨ x = 2 ∨ x = 3 by omega) with rfl | rfl | rfl | rfl <;> omega
def SS (a : AS) : List (List Nat) := S4 (csum (cel a) 0 + (20 - tsum (cel a))) (csum (cel a) 1) (csum (cel a) 2) (csum (cel a) 3)
theorem tot_c (a : AS) : csum (cel a) 0 + csum (cel a) 1 + csum (cel a) 2 + csum (cel a) 3 = tsum (cel a) := by
  have h := rc_tot (cel a)
  unfold tsum
  show _ = rsum (cel a) 0 + rsum (cel a) 1 + rsum (cel a) 2 + rsum (cel a) 3
  omega
theorem kvf_vin {a : AS} {e : Nat} {f v : Nat → Nat} (he : e ≤ 20 - tsum (cel a)) (h : ∀ x, x < 4 → f x + v x ≤ csum (cel a) x) : vin (SS a) (kvf e f v) := by
  have h0 := h 0 (by omega); have h1 := h 1 (by omega); have h2 := h 2 (by omega); have h3 := h 3 (by omega)
  refine ⟨kyS_mem.mpr ⟨f 0 + e, v 0, by omega, by omega⟩, kyS_mem.mpr ⟨f 1, v 1, by omega, rfl⟩, kyS_mem.mpr ⟨f 2, v 2, by omega, rfl⟩, kyS_mem.mpr ⟨f 3, v 3, by omega, rfl⟩, trivial⟩
theorem SS_cap {a : AS} (h : Told a) : (∀ m, m ≤ 20 → cn (SS a) (m + 21 * 0) ≤ 159) ∧ ∀ r0 r1 r2 r3, r0 + r1 + r2 + r3 = 20 → cn (SS a) (r0 + 21 * 0) + cn (SS a) (r1 + 21 * 0) + cn (SS a) (r2 + 21 * 0) + cn (SS a) (r3 + 21 * 0) ≤ 320 ∧ cn (SS a) (r0 + 21 * (r1 + r2 + r3)) + cn (SS a) (r1 + 21 * (r2 + r3)) + cn (SS a) (r2 + 21 * r3) + cn (SS a) (r3 + 21 * 0) ≤ 4800 := by
  have h1 := tot_c a
  have h2 := h.2.2.2.2.2.2.2.1
  exact cap (by omega)
theorem sum4 (a : AS) : rsum (cel a) 0 + rsum (cel a) 1 + rsum (cel a) 2 + rsum (cel a) 3 = tsum (cel a) := rfl
theorem nod_lt {L : List Nat} (h : L.Pairwise (fun p q => p < q)) : L.Nodup := List.Pairwise.imp (fun {p q} hpq => by omega) h
/-- a line of a row with its digits -/
theorem LL_dg {a : AS} {y l : Nat} (h : l ∈ LL a y) : l < 65536 ∧ s4 (dg l) = rsum (cel a) y ∧ ∀ x, x < 4 → dg l x ≤ csum (cel a) x := by
  obtain ⟨h1, h2⟩ := LL_mem.mp h
  obtain ⟨h3, h4⟩ := inL_iff.mp h2
  exact ⟨h1, h3, fun x hx => (h4 x hx).1⟩
theorem l_ext {l l' : Nat} (h : l < 65536) (h' : l' < 65536) (e : ∀ x, x < 4 → dg l x = dg l' x) : l = l' := by
  rw [← lnP_dg h, ← lnP_dg h']
  unfold lnP
  rw [e 0 (by omega), e 1 (by omega), e 2 (by omega), e 3 (by omega)]
theorem csum_le {a : AS} (x : Nat) (hx : x < 4) : csum (cel a) x ≤ tsum (cel a) := by
  have h := tot_c a
  rcases (show x = 0 ∨ x = 1 ∨ x = 2 ∨ x = 3 by omega) with rfl | rfl | rfl | rfl <;> omega
theorem LL_cap {a : AS} (h : Told a) (y : Nat) {e : Nat} (he : e ≤ 20 - tsum (cel a)) : (LL a y).length ≤ cn (SS a) (rsum (cel a) y + e + 21 * 0) := by
  have ht := h.2.2.2.2.2.2.2.1
  have := cn_len (SS a) ((LL a y).map (fun l => kvf e (dg l) (fun _ => 0))) (rsum (cel a) y + e + 21 * 0) ?_ ?_
  · rw [List.length_map] at this
    exact this
  · rw [List.Nodup, List.pairwise_map]
    refine List.Pairwise.imp_of_mem (fun {l l'} hl hl' hll e2 => ?_) (LL_sorted a y)
    obtain ⟨l1, -, l3⟩ := LL_dg hl
    obtain ⟨l1', -, l3'⟩ := LL_dg hl'
    have := l_ext l1 l1' (fun x hx => (kvf_inj e2 (fun x hx => by have := l3 x hx; have := csum_le (a := a) x hx; omega) (fun x hx => by have := l3' x hx; have := csum_le (a := a) x hx; omega) x hx).1)
    omega
  · intro v hv
    obtain ⟨l, hl, rfl⟩ := List.mem_map.mp hv
    obtain ⟨l1, l2, l3⟩ := LL_dg hl
    refine ⟨kvf_vin he (fun x hx => by have := l3 x hx; omega), ?_⟩
    rw [kvf_lsm, l2]
    rfl
theorem FA_len (a : AS) : (FA a 4).length = (LL a 0).length + (LL a 1).length + (LL a 2).length + (LL a 3).length := by
  show (((([] ++ pr2 0 (LL a 0)) ++ pr2 1 (LL a 1)) ++ pr2 2 (LL a 2)) ++ pr2 3 (LL a 3)).length = _
  rw [List.length_append, List.length_append, List.length_append, List.nil_append, pr2_len, pr2_len, pr2_len, pr2_len]
theorem FA_cap {a : AS} (hW : WF a) (hR : nR a ≠ 0) : (FA a (nR a)).length ≤ 320 := by
  have h := hW.told hR
  have ht := h.2.2.2.2.2.2.2.1
  refine Nat.le_trans (FA_mono a 4 hW.le.1) ?_
  rw [FA_len]
  have h0 := LL_cap h 0 (e := 20 - tsum (cel a)) (Nat.le_refl _)
  have h1 : (LL a 1).length ≤ cn (SS a) (rsum (cel a) 1 + 21 * 0) := LL_cap h 1 (e := 0) (Nat.zero_le _)
  have h2 : (LL a 2).length ≤ cn (SS a) (rsum (cel a) 2 + 21 * 0) := LL_cap h 2 (e := 0) (Nat.zero_le _)
  have h3 : (LL a 3).length ≤ cn (SS a) (rsum (cel a) 3 + 21 * 0) := LL_cap h 3 (e := 0) (Nat.zero_le _)
  have s := sum4 a
  have := ((SS_cap h).2 (rsum (cel a) 0 + (20 - tsum (cel a))) (rsum (cel a) 1) (rsum (cel a) 2) (rsum (cel a) 3) (by omega)).1
  omega
/-- what can be left, m in all -/
def Vd (a : AS) (m u : Nat) : Prop := u < topU ∧ (∀ x, x < 4 → lf u x ≤ csum (cel a) x) ∧ s4 (lf u) = m
theorem V_cap {a : AS} (h : Told a) {m : Nat} (hm : m ≤ 20) {V : List Nat} (hn : V.Nodup) (hV : ∀ u, u ∈ V → Vd a m u) : V.length ≤ 159 := by
  have ht := h.2.2.2.2.2.2.2.1
  have := cn_len (SS a) (V.map (fun u => kvf 0 (lf u) (fun _ => 0))) (m + 21 * 0) ?_ ?_
  · rw [List.length_map] at this
    exact Nat.le_trans this ((SS_cap h).1 m hm)
  · rw [List.Nodup, List.pairwise_map]
    refine List.Pairwise.imp_of_mem (fun {u u'} hu hu' huu e2 => huu ?_) hn
    obtain ⟨u1, u2, -⟩ := hV u hu
    obtain ⟨u1', u2', -⟩ := hV u' hu'
    exact u_ext u1 u1' (fun x hx => (kvf_inj e2 (fun x hx => by have := u2 x hx; have := csum_le (a := a) x hx; omega) (fun x hx => by have := u2' x hx; have := csum_le (a := a) x hx; omega) x hx).1)
  · intro v hv
    obtain ⟨u, hu, rfl⟩ := List.mem_map.mp hv
    obtain ⟨u1, u2, u3⟩ := hV u hu
    refine ⟨kvf_vin (Nat.zero_le _) (fun x hx => by have := u2 x hx; omega), ?_⟩
    rw [kvf_lsm, u3]
    rfl
theorem len_fm {β : Type} (f : Nat → List β) : ∀ V : List Nat, (V.flatMap f).length = sml (fun u => (f u).length) V
  | [] => rfl
  | u :: V => by
    rw [List.flatMap_cons, List.length_append, len_fm f V]
    rfl
/-- how many links some nodes have -/
def LC (a : AS) (y : Nat) (V : List Nat) : Nat := sml (fun u => (lnk a y u).length) V
theorem LC_cap {a : AS} (h : Told a) {y e m : Nat} (he : e ≤ 20 - tsum (cel a)) (hm : rsum (cel a) y ≤ m) {V : List Nat} (hn : V.Nodup) (hV : ∀ u, u ∈ V → Vd a m u) : LC a y V ≤ cn (SS a) (rsum (cel a) y + e + 21 * (m - rsum (cel a) y)) := by
  have ht := h.2.2.2.2.2.2.2.1
  have := cn_len (SS a) (V.flatMap (fun u => (lnk a y u).map (fun l => kvf e (dg l) (fun x => lf u x - dg l x)))) (rsum (cel a) y + e + 21 * (m - rsum (cel a) y)) ?_ ?_
  · rw [len_fm] at this
    unfold LC
    simp only [List.length_map] at this
    exact this
  · rw [List.Nodup, List.pairwise_flatMap]
    refine ⟨fun u hu => ?_, List.Pairwise.imp_of_mem (fun {u u'} hu hu' huu p hp q hq e2 => huu ?_) hn⟩
    · rw [List.pairwise_map]
      refine List.Pairwise.imp_of_mem (fun {l l'} hl hl' hll e2 => ?_) (lnk_sorted a y u)
      obtain ⟨l1, -, l3⟩ := LL_dg (lnk_mem.mp hl).1
      obtain ⟨l1', -, l3'⟩ := LL_dg (lnk_mem.mp hl').1
      have := l_ext l1 l1' (fun x hx => (kvf_inj e2 (fun x hx => by have := l3 x hx; have := csum_le (a := a) x hx; omega) (fun x hx => by have := l3' x hx; have := csum_le (a := a) x hx; omega) x hx).1)
      omega
    · obtain ⟨l, hl, rfl⟩ := List.mem_map.mp hp
      obtain ⟨l', hl', rfl⟩ := List.mem_map.mp hq
      obtain ⟨l0, f⟩ := lnk_mem.mp hl
      obtain ⟨l0', f'⟩ := lnk_mem.mp hl'
      rw [fts_iff] at f f'
      obtain ⟨l1, -, l3⟩ := LL_dg l0
      obtain ⟨l1', -, l3'⟩ := LL_dg l0'
      obtain ⟨u1, u2, -⟩ := hV u hu
      obtain ⟨u1', u2', -⟩ := hV u' hu'
      refine u_ext u1 u1' (fun x hx => ?_)
      have k := kvf_inj e2 (fun x hx => by have := l3 x hx; have := csum_le (a := a) x hx; omega) (fun x hx => by have := l3' x hx; have := csum_le (a := a) x hx; omega) x hx
      have := f x hx
      have := f' x hx
      omega
  · intro v hv
    obtain ⟨u, hu, hv2⟩ := List.mem_flatMap.mp hv
    obtain ⟨l, hl, rfl⟩ := List.mem_map.mp hv2
    obtain ⟨l0, f⟩ := lnk_mem.mp hl
    rw [fts_iff] at f
    obtain ⟨l1, l2, l3⟩ := LL_dg l0
    obtain ⟨u1, u2, u3⟩ := hV u hu
    refine ⟨kvf_vin he (fun x hx => by have := u2 x hx; have := f x hx; omega), ?_⟩
    rw [kvf_lsm, l2]
    have e4 : s4 (fun x => lf u x - dg l x) = m - rsum (cel a) y := by
      rw [← u3, ← l2]
      unfold s4
      dsimp only
      have := f 0 (by omega); have := f 1 (by omega); have := f 2 (by omega); have := f 3 (by omega)
      omega
    rw [e4]
/-- what is left of all behind y rows -/
def mY (a : AS) (y : Nat) : Nat := tsum (cel a) - fb_sm (rsum (cel a)) y
theorem mY_s {a : AS} {y : Nat} (hy : y < 4) : mY a (y + 1) = mY a y - rsum (cel a) y ∧ rsum (cel a) y ≤ mY a y ∧ mY a y ≤ tsum (cel a) := by
  have h1 := sm_mono (rsum (cel a)) (m := y + 1) 4 (by omega)
  rw [sm4] at h1
  have h2 : s4 (rsum (cel a)) = tsum (cel a) := rfl
  unfold mY
  rw [sm_s] at *
  omega
theorem LK_cap {a : AS} (h : Told a) {V : Nat → List Nat} (hn : ∀ y, y < 4 → (V y).Nodup) (hV : ∀ y, y < 4 → ∀ u, u ∈ V y → Vd a (mY a y) u) : LC a 0 (V 0) + LC a 1 (V 1) + LC a 2 (V 2) + LC a 3 (V 3) ≤ 4800 := by
  have ht := h.2.2.2.2.2.2.2.1
  have s := sum4 a
  have m0 : mY a 1 = mY a 0 - rsum (cel a) 0 ∧ rsum (cel a) 0 ≤ mY a 0 ∧ mY a 0 ≤ tsum (cel a) := mY_s (by omega)
  have m1 : mY a 2 = mY a 1 - rsum (cel a) 1 ∧ rsum (cel a) 1 ≤ mY a 1 ∧ mY a 1 ≤ tsum (cel a) := mY_s (by omega)
  have m2 : mY a 3 = mY a 2 - rsum (cel a) 2 ∧ rsum (cel a) 2 ≤ mY a 2 ∧ mY a 2 ≤ tsum (cel a) := mY_s (by omega)
  have m3 : mY a 4 = mY a 3 - rsum (cel a) 3 ∧ rsum (cel a) 3 ≤ mY a 3 ∧ mY a 3 ≤ tsum (cel a) := mY_s (by omega)
  have h0 := LC_cap h (e := 20 - tsum (cel a)) (Nat.le_refl _) m0.2.1 (hn 0 (by omega)) (hV 0 (by omega))
  have h1 : LC a 1 (V 1) ≤ cn (SS a) (rsum (cel a) 1 + 21 * (mY a 1 - rsum (cel a) 1)) := LC_cap h (e := 0) (Nat.zero_le _) m1.2.1 (hn 1 (by omega)) (hV 1 (by omega))
  have h2 : LC a 2 (V 2) ≤ cn (SS a) (rsum (cel a) 2 + 21 * (mY a 2 - rsum (cel a) 2)) := LC_cap h (e := 0) (Nat.zero_le _) m2.2.1 (hn 2 (by omega)) (hV 2 (by omega))
  have h3 : LC a 3 (V 3) ≤ cn (SS a) (rsum (cel a) 3 + 21 * (mY a 3 - rsum (cel a) 3)) := LC_cap h (e := 0) (Nat.zero_le _) m3.2.1 (hn 3 (by omega)) (hV 3 (by omega))
  have e0 : mY a 0 = tsum (cel a) := by unfold mY; exact Nat.sub_zero _
  rw [show mY a 0 - rsum (cel a) 0 = rsum (cel a) 1 + rsum (cel a) 2 + rsum (cel a) 3 by omega] at h0
  rw [show mY a 1 - rsum (cel a) 1 = rsum (cel a) 2 + rsum (cel a) 3 by omega] at h1
  rw [show mY a 2 - rsum (cel a) 2 = rsum (cel a) 3 by omega] at h2
  rw [show mY a 3 - rsum (cel a) 3 = 0 by omega] at h3
  have := ((SS_cap h).2 (rsum (cel a) 0 + (20 - tsum (cel a))) (rsum (cel a) 1) (rsum (cel a) 2) (rsum (cel a) 3) (by omega)).2
  omega
-- codes
def cdu (a : AS) (u : Nat) : Nat := cdS a (lf u) 4
theorem strd_lt {a : AS} {x : Nat} (h : x + 1 < nC a) : strd a x = stS a x := if_pos h
theorem strd_ge {a : AS} {x : Nat} (h : ¬ x + 1 < nC a) : strd a x = 0 := if_neg h
theorem cdS_lt {a : AS} {f : Nat → Nat} (h : ∀ x, x < 4 → f x ≤ csum (cel a) x) : ∀ n, n < nC a → n ≤ 4 → cdS a f n < stS a n
  | 0, _, _ => by show 0 < 1; omega
  | n + 1, hn, h4 => by
    have ih := cdS_lt h n (by omega) (by omega)
    have h1 := h n (by omega)
    show cdS a f n + f n * strd a n < stS a n * (csum (cel a) n + 1)
    rw [strd_lt hn, Nat.mul_succ]
    have h2 : f n * stS a n ≤ csum (cel a) n * stS a n := Nat.mul_le_mul_right _ h1
    rw [Nat.mul_comm (csum (cel a) n)] at h2
    omega
theorem cdS_inj {a : AS} {f f' : Nat → Nat} (h : ∀ x, x < 4 → f x ≤ csum (cel a) x) (h' : ∀ x, x < 4 → f' x ≤ csum (cel a) x) : ∀ n, n < nC a → n ≤ 4 → cdS a f n = cdS a f' n → ∀ x, x < n → f x = f' x
  | 0, _, _, _ => fun x hx => absurd hx (by omega)
  | n + 1, hn, h4, e => by
    have b := cdS_lt h n (by omega) (by omega)
    have b' := cdS_lt h' n (by omega) (by omega)
    have e : cdS a f n + f n * strd a n = cdS a f' n + f' n * strd a n := e
    rw [strd_lt hn] at e
    have hp : 0 < stS a n := by omega
    have d1 : (cdS a f n + f n * stS a n) / stS a n = f n := by
      rw [Nat.add_comm, Nat.mul_comm, Nat.mul_add_div hp, Nat.div_eq_of_lt b, Nat.add_zero]
    have d2 : (cdS a f' n + f' n * stS a n) / stS a n = f' n := by
      rw [Nat.add_comm, Nat.mul_comm, Nat.mul_add_div hp, Nat.div_eq_of_lt b', Nat.add_zero]
    have en : f n = f' n := by rw [← d1, ← d2, e]
    rw [en] at e
    intro x hx
    by_cases c : x = n
    · rw [c]; exact en
    · exact cdS_inj h h' n (by omega) (by omega) (by omega) x (by omega)
theorem cdS_cut {a : AS} {f : Nat → Nat} (hC : 1 ≤ nC a) : ∀ n, nC a - 1 ≤ n → cdS a f n = cdS a f (nC a - 1)
  | 0, h => by rw [show nC a - 1 = 0 by omega]
  | n + 1, h => by
    by_cases c : nC a - 1 = n + 1
    · rw [c]
    · show cdS a f n + f n * strd a n = _
      rw [strd_ge (by omega), Nat.mul_zero, Nat.add_zero, cdS_cut hC n (by omega)]
def prodOk : Bool := allF (fun c0 => allF (fun c1 => allF (fun c2 => Nat.ble ((c0 + 1) * (c1 + 1) * (c2 + 1)) 480) (20 - c0 - c1)) (20 - c0)) 20
theorem prodOk_t : prodOk = true := by decide +kernel
theorem prod_le {c0 c1 c2 : Nat} (h : c0 + c1 + c2 ≤ 20) : (c0 + 1) * (c1 + 1) * (c2 + 1) ≤ 480 := by
  have k := prodOk_t
  unfold prodOk at k
  have k0 := (allF_iff _).mp k c0 (by omega)
  have k1 := (allF_iff _).mp k0 c1 (by omega)
  exact Nat.le_of_ble_eq_true ((allF_iff _).mp k1 c2 (by omega))
theorem stS_le {a : AS} (h : Told a) : stS a (nC a - 1) ≤ 480 := by
  have ht := h.2.2.2.2.2.2.2.1
  have hc := tot_c a
  obtain ⟨-, -, c1, c2, -⟩ := h
  rcases (show nC a = 2 ∨ nC a = 3 ∨ nC a = 4 by omega) with q | q | q <;> rw [q]
  · show 1 * (csum (cel a) 0 + 1) ≤ 480
    omega
  · show 1 * (csum (cel a) 0 + 1) * (csum (cel a) 1 + 1) ≤ 480
    have := prod_le (c0 := csum (cel a) 0) (c1 := csum (cel a) 1) (c2 := 0) (by omega)
    rw [Nat.one_mul]
    rw [Nat.zero_add, Nat.mul_one] at this
    exact this
  · show 1 * (csum (cel a) 0 + 1) * (csum (cel a) 1 + 1) * (csum (cel a) 2 + 1) ≤ 480
    rw [Nat.one_mul]
    exact prod_le (by omega)
theorem cdu_lt {a : AS} (h : Told a) {m u : Nat} (hu : Vd a m u) : cdu a u < 480 := by
  have hC := h.2.2.1
  have h4 := h.2.2.2.1
  have := cdS_lt hu.2.1 (nC a - 1) (by omega) (by omega)
  have := stS_le h
  unfold cdu
  rw [cdS_cut (by omega) 4 (by omega)]
  omega
theorem cdu_inj {a : AS} (h : Told a) {m u v : Nat} (hu : Vd a m u) (hv : Vd a m v) (e : cdu a u = cdu a v) : u = v := by
  have hC := h.2.2.1
  have h4 := h.2.2.2.1
  have hcT := h.2.2.2.2.2.2.2.2.2.1
  unfold cdu at e
  rw [cdS_cut (by omega) 4 (by omega), cdS_cut (f := lf v) (by omega) 4 (by omega)] at e
  have k := cdS_inj hu.2.1 hv.2.1 (nC a - 1) (by omega) (by omega) e
  have z : ∀ x, nC a ≤ x → x < 4 → lf u x = 0 ∧ lf v x = 0 := fun x hx hx4 => by
    have h1 := hu.2.1 x hx4
    have h2 := hv.2.1 x hx4
    rw [hcT.cs0 hx] at h1 h2
    omega
  have s1 := hu.2.2
  have s2 := hv.2.2
  unfold s4 at s1 s2
  have all : lf u 0 = lf v 0 ∧ lf u 1 = lf v 1 ∧ lf u 2 = lf v 2 ∧ lf u 3 = lf v 3 := by
    rcases (show nC a = 2 ∨ nC a = 3 ∨ nC a = 4 by omega) with q | q | q <;> rw [q] at k z
    · have := k 0 (by omega); have := z 2 (by omega) (by omega); have := z 3 (by omega) (by omega)
      omega
    · have := k 0 (by omega); have := k 1 (by omega); have := z 3 (by omega) (by omega)
      omega
    · have := k 0 (by omega); have := k 1 (by omega); have := k 2 (by omega)
      omega
  refine u_ext hu.1 hv.1 (fun x hx => ?_)
  rcases (show x = 0 ∨ x = 1 ∨ x = 2 ∨ x = 3 by omega) with rfl | rfl | rfl | rfl
  · exact all.1
  · exact all.2.1
  · exact all.2.2.1
  · exact all.2.2.2
