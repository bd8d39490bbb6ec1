theorem SWs_of {a : AS} {r s c e : Nat} (h1 : r < s) (h2 : s < nR a) (h3 : c < nC a) (h4 : e < nC a) (h5 : c ≠ e) (h6 : freS a r s c e = true) : (r, s, s, c, e, c) ∈ SWs a := by
  unfold SWs
  refine (upF_mem _ _).mpr ⟨r, by omega, by omega, (upF_mem _ _).mpr ⟨s, by omega, by omega, ?_⟩⟩
  unfold swL2
  refine (upF_mem _ _).mpr ⟨c, by omega, by omega, (upF_mem _ _).mpr ⟨e, by omega, by omega, ?_⟩⟩
  unfold swL1
  rw [if_pos ⟨h5, h6⟩]
  simp
/-- a swap taken back -/
theorem sw_inv {a : AS} (hW : WF a) {m : MVt} (hm : m ∈ SWs a) {u : Nat → Nat → Nat} (hc : mvC u m = true) : ∃ m', m' ∈ SWs a ∧ mvC (mvT m u) m' = true ∧ mvT m' (mvT m u) = u := by
  have hok := (SWs_frM hW hm).2.2
  have lo := le_ok hok hc
  obtain ⟨r, s, c, e, em, h1, h2, h3, h4, h5, h6⟩ := SWs_mem hm
  have hf : freS a r s e c = true := by
    unfold freS at h6 ⊢
    simp at h6 ⊢
    exact ⟨h6.2.1, h6.1, h6.2.2.2, h6.2.2.1⟩
  have hm' := SWs_of h1 h2 h4 h3 (fun z => h5 z.symm) hf
  have hc' : mvC (mvT m u) (r, s, s, e, c, e) = true := by
    rw [mvC_iff, em]
    have v : ∀ y x, mvT (r, s, s, c, e, c) u y x = u y x + (mo1 r c y x + mo1 s e y x + mo1 s c y x) - (mo1 r e y x + mo1 s c y x + mo1 s c y x) := fun y x => rfl
    refine ⟨?_, ?_, ?_⟩
    · show 0 < mvT (r, s, s, c, e, c) u r c
      rw [v, mo1_1 (y := r) (x := c) ⟨rfl, rfl⟩, mo1_0 (y := r) (x := e) (fun z => h5 z.2), mo1_0 (y := s) (x := c) (fun z => by omega)]
      omega
    · show 0 < mvT (r, s, s, c, e, c) u s e
      rw [v, mo1_1 (y := s) (x := e) ⟨rfl, rfl⟩, mo1_0 (y := r) (x := e) (fun z => by omega), mo1_0 (y := s) (x := c) (fun z => h5 z.2.symm)]
      omega
    · show 0 < mvT (r, s, s, c, e, c) u s e
      rw [v, mo1_1 (y := s) (x := e) ⟨rfl, rfl⟩, mo1_0 (y := r) (x := e) (fun z => by omega), mo1_0 (y := s) (x := c) (fun z => h5 z.2.symm)]
      omega
  refine ⟨_, hm', hc', ?_⟩
  have lo' := le_ok (SWs_frM hW hm').2.2 hc'
  funext y x
  have l1 := lo y x
  have l2 := lo' y x
  have v1 : mvT m u y x = u y x + moN m y x - leN m y x := rfl
  show mvT m u y x + moN (r, s, s, e, c, e) y x - leN (r, s, s, e, c, e) y x = u y x
  rw [v1] at l2 ⊢
  have x1 : moN m y x = mo1 r c y x + mo1 s e y x + mo1 s c y x := by rw [em]; rfl
  have x2 : leN m y x = mo1 r e y x + mo1 s c y x + mo1 s c y x := by rw [em]; rfl
  have x3 : moN (r, s, s, e, c, e) y x = mo1 r e y x + mo1 s c y x + mo1 s e y x := rfl
  have x4 : leN (r, s, s, e, c, e) y x = mo1 r c y x + mo1 s e y x + mo1 s e y x := rfl
  rw [x1, x2] at l1
  rw [x1, x2, x3, x4] at l2
  rw [x1, x2, x3, x4]
  omega
theorem adjS_sy {a : AS} (hW : WF a) (hR : nR a ≠ 0) (i j : Nat) (h : adjS a i j) : adjS a j i := by
  obtain ⟨h1, h2, m, m1, m2, m3⟩ := h
  have hp := getD_mem h1
  obtain ⟨k1, k2, -⟩ := mvT_KK hW hR (SWs_frM hW m1) hp m2
  obtain ⟨m', n1, n2, n3⟩ := sw_inv hW m1 m2
  refine ⟨h2, h1, m', n1, ?_, ?_⟩
  · rw [m3, k2]; exact n2
  · rw [m3, k2, n3]
    exact (KK_tab hW hR hp).2.2.symm
/-- where a table stands -/
theorem KK_idx {a : AS} {p : Nat} (hp : p ∈ KK a) : rkK a p < (KK a).length ∧ (KK a).getD (rkK a p) 0 = p := by
  obtain ⟨A, B, e⟩ := List.append_of_mem hp
  have hpre : (A ++ [p]) <+: KK a := ⟨B, by rw [e, List.append_assoc]; rfl⟩
  rw [rkK_pre hpre, e]
  refine ⟨by rw [List.length_append, List.length_cons]; omega, getD_mid⟩
theorem KK_rk {a : AS} {i : Nat} (hi : i < (KK a).length) : rkK a ((KK a).getD i 0) = i := by
  obtain ⟨h1, h2⟩ := KK_idx (getD_mem hi)
  have := srt_le (KK_sorted a) h1 hi
  have := srt_le (KK_sorted a) hi h1
  rw [h2] at *
  omega
theorem adjS_to {a : AS} (hW : WF a) (hR : nR a ≠ 0) {i : Nat} (hi : i < (KK a).length) {m : MVt} (hm : m ∈ SWs a) (hc : mvC (unp ((KK a).getD i 0)) m = true) : adjS a i (rkK a (pack (mvT m (unp ((KK a).getD i 0))))) := by
  obtain ⟨k1, -, -⟩ := mvT_KK hW hR (SWs_frM hW hm) (getD_mem hi) hc
  obtain ⟨j1, j2⟩ := KK_idx k1
  exact ⟨hi, j1, m, hm, hc, j2⟩
