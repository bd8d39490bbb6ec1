-- CHOICES AND NEIGHBOURS
/-- a swap with its rows and columns the other way round is the same -/
theorem mvC_sw (u : Nat → Nat → Nat) (r s c e : Nat) : mvC u (r, s, s, c, e, c) = true ↔ 0 < u r e ∧ 0 < u s c := by
  rw [mvC_iff]
  exact ⟨fun z => ⟨z.1, z.2.1⟩, fun z => ⟨z.1, z.2, z.2⟩⟩
theorem frM_sw {a : AS} {r s c e : Nat} : frM a (r, s, s, c, e, c) ↔ (r < nR a ∧ s < nR a ∧ c < nC a ∧ e < nC a) ∧ hol a r c = false ∧ hol a s e = false ∧ hol a r e = false ∧ hol a s c = false := by
  constructor
  · intro ⟨⟨b1, b2, b3, b4, b5, b6⟩, f1, f2, f3, f4, f5, f6⟩
    exact ⟨⟨b1, b2, b4, b5⟩, f1, f2, f4, f5⟩
  · intro ⟨⟨b1, b2, b4, b5⟩, f1, f2, f4, f5⟩
    exact ⟨⟨b1, b2, b2, b4, b5, b4⟩, f1, f2, f5, f4, f5, f5⟩
theorem okM_sw {r s c e : Nat} (hrs : r ≠ s) (hce : c ≠ e) : okM (r, s, s, c, e, c) := Or.inl ⟨rfl, rfl, hrs, hce⟩
theorem mvT_mir {u : Nat → Nat → Nat} {r s c e : Nat} (hrs : r ≠ s) (hce : c ≠ e) (h : mvC u (r, s, s, c, e, c) = true) : mvC u (s, r, r, e, c, e) = true ∧ mvT (s, r, r, e, c, e) u = mvT (r, s, s, c, e, c) u := by
  have h2 : mvC u (s, r, r, e, c, e) = true := by
    have := (mvC_sw u r s c e).mp h
    exact (mvC_sw u s r e c).mpr ⟨this.2, this.1⟩
  refine ⟨h2, ?_⟩
  funext y x
  have l1 := le_ok (okM_sw hrs hce) h y x
  have l2 := le_ok (okM_sw (Ne.symm hrs) (Ne.symm hce)) h2 y x
  have x1 : moN (r, s, s, c, e, c) y x = mo1 r c y x + mo1 s e y x + mo1 s c y x := rfl
  have x2 : leN (r, s, s, c, e, c) y x = mo1 r e y x + mo1 s c y x + mo1 s c y x := rfl
  have x3 : moN (s, r, r, e, c, e) y x = mo1 s e y x + mo1 r c y x + mo1 r e y x := rfl
  have x4 : leN (s, r, r, e, c, e) y x = mo1 s c y x + mo1 r e y x + mo1 r e y x := rfl
  show u y x + moN (s, r, r, e, c, e) y x - leN (s, r, r, e, c, e) y x = u y x + moN (r, s, s, c, e, c) y x - leN (r, s, s, c, e, c) y x
  rw [x1, x2] at l1 ⊢
  rw [x3, x4] at l2 ⊢
  omega
theorem okC_mir {a : AS} {i r s c e : Nat} (hrs : r ≠ s) (hce : c ≠ e) (h : okC a i (r, s, s, c, e, c)) : okC a i (s, r, r, e, c, e) ∧ nxI a i (s, r, r, e, c, e) = nxI a i (r, s, s, c, e, c) := by
  obtain ⟨h1, h2⟩ := h
  obtain ⟨k1, k2⟩ := mvT_mir hrs hce h2
  obtain ⟨⟨b1, b2, b4, b5⟩, f1, f2, f4, f5⟩ := frM_sw.mp h1
  refine ⟨⟨frM_sw.mpr ⟨⟨b2, b1, b5, b4⟩, f2, f1, f5, f4⟩, k1⟩, ?_⟩
  unfold nxI
  rw [k2]
theorem SWs_okC {a : AS} {i r s c e : Nat} (hrs : r < s) (hce : c ≠ e) (h : okC a i (r, s, s, c, e, c)) : (r, s, s, c, e, c) ∈ SWs a := by
  obtain ⟨⟨b1, b2, b4, b5⟩, f1, f2, f4, f5⟩ := frM_sw.mp h.1
  refine SWs_of hrs b2 b4 b5 hce ?_
  unfold freS
  rw [f1, f2, f4, f5]
  rfl
theorem m4_of {a : AS} (hW : WF a) {m : MVt} (hb : inM a m) : m4 m := by
  have hle := hW.le
  exact ⟨by have := hb.1; omega, by have := hb.2.1; omega, by have := hb.2.2.1; omega, by have := hb.2.2.2.1; omega, by have := hb.2.2.2.2.1; omega, by have := hb.2.2.2.2.2; omega⟩
theorem adjS_ch {a : AS} (hW : WF a) (hR : nR a ≠ 0) {i r s c e : Nat} (hi : i < (KK a).length) (hrs : r ≠ s) (hce : c ≠ e) (h : okC a i (r, s, s, c, e, c)) : adjS a i (nxI a i (r, s, s, c, e, c)) := by
  rcases Nat.lt_or_gt_of_ne hrs with q | q
  · exact adjS_to hW hR hi (SWs_okC q hce h) h.2
  · obtain ⟨k1, k2⟩ := okC_mir hrs hce h
    rw [← k2]
    exact adjS_to hW hR hi (SWs_okC q (Ne.symm hce) k1) k1.2
theorem adjS_ex {a : AS} (hW : WF a) {i v : Nat} (h : adjS a i v) : ∃ r s c e, r < s ∧ s < nR a ∧ c < nC a ∧ e < nC a ∧ c ≠ e ∧ okC a i (r, s, s, c, e, c) ∧ v = nxI a i (r, s, s, c, e, c) := by
  obtain ⟨h1, h2, m, m1, m2, m3⟩ := h
  have hf := (SWs_frM hW m1).1
  obtain ⟨r, s, c, e, em, k1, k2, k3, k4, k5, k6⟩ := SWs_mem m1
  rw [em] at m2 m3 hf
  refine ⟨r, s, c, e, k1, k2, k3, k4, k5, ⟨hf, m2⟩, ?_⟩
  unfold nxI
  rw [← m3, KK_rk h2]
-- turns
theorem rot_mo (r s t c e f y x : Nat) : moN (s, t, r, e, f, c) y x = moN (r, s, t, c, e, f) y x ∧ leN (s, t, r, e, f, c) y x = leN (r, s, t, c, e, f) y x := by
  unfold moN leN
  dsimp only
  omega
theorem okC_rot {a : AS} {i r s t c e f : Nat} (h : okC a i (r, s, t, c, e, f)) : okC a i (s, t, r, e, f, c) ∧ nxI a i (s, t, r, e, f, c) = nxI a i (r, s, t, c, e, f) := by
  obtain ⟨⟨⟨b1, b2, b3, b4, b5, b6⟩, f1, f2, f3, f4, f5, f6⟩, h2⟩ := h
  obtain ⟨g1, g2, g3⟩ := mvC_iff.mp h2
  refine ⟨⟨⟨⟨b2, b3, b1, b5, b6, b4⟩, f2, f3, f1, f5, f6, f4⟩, mvC_iff.mpr ⟨g2, g3, g1⟩⟩, ?_⟩
  unfold nxI
  congr 2
  funext y x
  have := rot_mo r s t c e f y x
  show _ + moN (s, t, r, e, f, c) y x - leN (s, t, r, e, f, c) y x = _ + moN (r, s, t, c, e, f) y x - leN (r, s, t, c, e, f) y x
  rw [this.1, this.2]
theorem TNs_okC {a : AS} {i r s t c e f : Nat} (h1 : r < s) (h2 : r < t) (h3 : s ≠ t) (k1 : c ≠ e) (k2 : c ≠ f) (k3 : e ≠ f) (h : okC a i (r, s, t, c, e, f)) : (r, s, t, c, e, f) ∈ TNs a := by
  obtain ⟨⟨⟨b1, b2, b3, b4, b5, b6⟩, f1, f2, f3, f4, f5, f6⟩, -⟩ := h
  have b1 : r < nR a := b1
  have b2 : s < nR a := b2
  have b3 : t < nR a := b3
  have b4 : c < nC a := b4
  have b5 : e < nC a := b5
  have b6 : f < nC a := b6
  have f1 : hol a r c = false := f1
  have f2 : hol a s e = false := f2
  have f3 : hol a t f = false := f3
  have f4 : hol a r e = false := f4
  have f5 : hol a s f = false := f5
  have f6 : hol a t c = false := f6
  unfold TNs
  refine (upF_mem _ _).mpr ⟨r, by omega, by omega, (upF_mem _ _).mpr ⟨s, by omega, by omega, (upF_mem _ _).mpr ⟨t, by omega, by omega, ?_⟩⟩⟩
  unfold tnL2
  rw [if_neg h3]
  refine (upF_mem _ _).mpr ⟨c, by omega, by omega, (upF_mem _ _).mpr ⟨e, by omega, by omega, (upF_mem _ _).mpr ⟨f, by omega, by omega, ?_⟩⟩⟩
  unfold tnL1
  have hfr : freT a r s t c e f = true := by
    unfold freT
    rw [f1, f2, f3, f4, f5, f6]
    rfl
  rw [if_pos ⟨k1, k3, Ne.symm k2, hfr⟩]
  simp
theorem adjT_mem {a : AS} (hW : WF a) (hR : nR a ≠ 0) {i : Nat} (hi : i < (KK a).length) {m : MVt} (hm : m ∈ SWs a ++ TNs a) (hc : mvC (unp ((KK a).getD i 0)) m = true) : adjT a i (nxI a i m) := by
  have hf : frM a m ∧ m4 m ∧ okM m := by
    rcases List.mem_append.mp hm with z | z
    · exact SWs_frM hW z
    · exact TNs_frM hW z
  obtain ⟨k1, k2, -⟩ := nxI_ok hW hR hi hf.2.1 hf.2.2 ⟨hf.1, hc⟩
  exact ⟨hi, k1, m, hm, hc, k2⟩
theorem adjS_T {a : AS} {i v : Nat} (h : adjS a i v) : adjT a i v := by
  obtain ⟨h1, h2, m, m1, m2, m3⟩ := h
  exact ⟨h1, h2, m, List.mem_append.mpr (Or.inl m1), m2, m3⟩
theorem adjT_ch {a : AS} (hW : WF a) (hR : nR a ≠ 0) {i r s t c e f : Nat} (hi : i < (KK a).length) (h1 : r ≠ s) (h2 : r ≠ t) (h3 : s ≠ t) (k1 : c ≠ e) (k2 : c ≠ f) (k3 : e ≠ f) (h : okC a i (r, s, t, c, e, f)) : adjT a i (nxI a i (r, s, t, c, e, f)) := by
  obtain ⟨q1, q2⟩ := okC_rot h
  obtain ⟨q3, q4⟩ := okC_rot q1
  by_cases c1 : r < s ∧ r < t
  · exact adjT_mem hW hR hi (List.mem_append.mpr (Or.inr (TNs_okC c1.1 c1.2 h3 k1 k2 k3 h))) h.2
  · by_cases c2 : s < t ∧ s < r
    · rw [← q2]
      exact adjT_mem hW hR hi (List.mem_append.mpr (Or.inr (TNs_okC c2.1 c2.2 (Ne.symm h2) k3 (Ne.symm k1) (Ne.symm k2) q1))) q1.2
    · rw [← q2, ← q4]
      exact adjT_mem hW hR hi (List.mem_append.mpr (Or.inr (TNs_okC (by omega) (by omega) h1 (Ne.symm k2) (Ne.symm k3) k1 q3))) q3.2
theorem TNs_mem {a : AS} {m : MVt} (h : m ∈ TNs a) : ∃ r s t c e f, m = (r, s, t, c, e, f) ∧ (r < s ∧ r < t ∧ s ≠ t) ∧ (c ≠ e ∧ c ≠ f ∧ e ≠ f) := by
  unfold TNs at h
  obtain ⟨r, -, r2, h⟩ := (upF_mem _ _).mp h
  obtain ⟨s, s1, s2, h⟩ := (upF_mem _ _).mp h
  obtain ⟨t, t1, t2, h⟩ := (upF_mem _ _).mp h
  unfold tnL2 at h
  by_cases q : s = t
  · rw [if_pos q] at h; exact absurd h (by simp)
  · rw [if_neg q] at h
    obtain ⟨c, -, c2, h⟩ := (upF_mem _ _).mp h
    obtain ⟨d, -, d2, h⟩ := (upF_mem _ _).mp h
    obtain ⟨e, -, e2, h⟩ := (upF_mem _ _).mp h
    unfold tnL1 at h
    by_cases q2 : c ≠ d ∧ d ≠ e ∧ e ≠ c ∧ freT a r s t c d e = true
    · rw [if_pos q2] at h
      exact ⟨r, s, t, c, d, e, List.mem_singleton.mp h, ⟨by omega, by omega, q⟩, q2.1, fun z => q2.2.2.1 z.symm, q2.2.1⟩
    · rw [if_neg q2] at h; exact absurd h (by simp)
theorem adjT_ex {a : AS} (hW : WF a) {i v : Nat} (h : adjT a i v) : adjS a i v ∨ ∃ r s t c e f, (r ≠ s ∧ r ≠ t ∧ s ≠ t) ∧ (c ≠ e ∧ c ≠ f ∧ e ≠ f) ∧ okC a i (r, s, t, c, e, f) ∧ v = nxI a i (r, s, t, c, e, f) := by
  obtain ⟨h1, h2, m, m1, m2, m3⟩ := h
  rcases List.mem_append.mp m1 with z | z
  · exact Or.inl ⟨h1, h2, m, z, m2, m3⟩
  · have hf := (TNs_frM hW z).1
    obtain ⟨r, s, t, c, e, f, em, k1, k2⟩ := TNs_mem z
    rw [em] at m2 m3 hf
    refine Or.inr ⟨r, s, t, c, e, f, ⟨by omega, by omega, k1.2.2⟩, k2, ⟨hf, m2⟩, ?_⟩
    unfold nxI
    rw [← m3, KK_rk h2]
-- how long a row of different numbers can be
theorem nodup_len : ∀ (n : Nat) (q : List Nat), q.Nodup → (∀ v, v ∈ q → v < n) → q.length ≤ n
  | 0, q, _, h => by
    cases q with
    | nil => exact Nat.le_refl _
    | cons x xs => exact absurd (h x (by simp)) (by omega)
  | n + 1, q, hn, h => by
    by_cases c : n ∈ q
    · have h1 := nodup_len n (q.erase n) (hn.erase n) (fun v hv => by
        have h2 := h v (List.mem_of_mem_erase hv)
        have h3 : v ≠ n := fun z => by
          rw [z] at hv
          exact absurd hv (List.Nodup.not_mem_erase hn)
        omega)
      rw [List.length_erase_of_mem c] at h1
      omega
    · have := nodup_len n q hn (fun v hv => by
        have h2 := h v hv
        have h3 : v ≠ n := fun z => by rw [z] at hv; exact c hv
        omega)
      omega
