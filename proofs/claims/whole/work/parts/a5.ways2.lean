section WZ
variable {a : AS}
/-- a swap taken back, either way round -/
theorem okC_inv (hW : WF a) (hR : nR a ≠ 0) {i r s c e : Nat} (hi : i < (KK a).length) (hrs : r ≠ s) (hce : c ≠ e) (h : okC a i (r, s, s, c, e, c)) : okC a (nxI a i (r, s, s, c, e, c)) (r, s, s, e, c, e) ∧ nxI a (nxI a i (r, s, s, c, e, c)) (r, s, s, e, c, e) = i := by
  obtain ⟨hf, hc⟩ := h
  have hok := okM_sw hrs hce
  have hb : inM a (r, s, s, c, e, c) := hf.1
  obtain ⟨n1, n2, n3⟩ := nxI_ok hW hR hi (m4_of hW hb) hok ⟨hf, hc⟩
  have lo := le_ok hok hc
  generalize eu : unp ((KK a).getD i 0) = u at hc lo n2 n3
  have hc' : mvC (mvT (r, s, s, c, e, c) u) (r, s, s, e, c, e) = true := by
    rw [mvC_iff]
    have v : ∀ y x, mvT (r, s, s, c, e, c) u y x = u y x + (mo1 r c y x + mo1 s e y x + mo1 s c y x) - (mo1 r e y x + mo1 s c y x + mo1 s c y x) := fun y x => rfl
    have p1 : 0 < mvT (r, s, s, c, e, c) u r c := by
      rw [v, mo1_1 (y := r) (x := c) ⟨rfl, rfl⟩, mo1_0 (y := r) (x := e) (fun z => hce z.2), mo1_0 (y := s) (x := c) (fun z => hrs z.1)]
      omega
    have p2 : 0 < mvT (r, s, s, c, e, c) u s e := by
      rw [v, mo1_1 (y := s) (x := e) ⟨rfl, rfl⟩, mo1_0 (y := r) (x := e) (fun z => hrs z.1.symm), mo1_0 (y := s) (x := c) (fun z => hce z.2.symm)]
      omega
    exact ⟨p1, p2, p2⟩
  have hback : mvT (r, s, s, e, c, e) (mvT (r, s, s, c, e, c) u) = u := by
    have lo' := le_ok (okM_sw hrs (Ne.symm hce)) hc'
    funext y x
    have l1 := lo y x
    have l2 := lo' y x
    have v1 : mvT (r, s, s, c, e, c) u y x = u y x + moN (r, s, s, c, e, c) y x - leN (r, s, s, c, e, c) y x := rfl
    show mvT (r, s, s, c, e, c) u y x + moN (r, s, s, e, c, e) y x - leN (r, s, s, e, c, e) y x = u y x
    rw [v1] at l2 ⊢
    have x1 : moN (r, s, s, c, e, c) y x = mo1 r c y x + mo1 s e y x + mo1 s c y x := rfl
    have x2 : leN (r, s, s, c, e, c) y x = mo1 r e y x + mo1 s c y x + mo1 s c y x := rfl
    have x3 : moN (r, s, s, e, c, e) y x = mo1 r e y x + mo1 s c y x + mo1 s e y x := rfl
    have x4 : leN (r, s, s, e, c, e) y x = mo1 r c y x + mo1 s e y x + mo1 s e y x := rfl
    rw [x1, x2] at l1
    rw [x1, x2, x3, x4] at l2
    rw [x1, x2, x3, x4]
    omega
  obtain ⟨⟨b1, b2, b4, b5⟩, f1, f2, f4, f5⟩ := frM_sw.mp hf
  refine ⟨⟨frM_sw.mpr ⟨⟨b1, b2, b5, b4⟩, f4, f5, f1, f2⟩, by rw [n3]; exact hc'⟩, ?_⟩
  have hp := (KK_tab hW hR (getD_mem hi)).2.2
  rw [eu] at hp
  show rkK a (pack (mvT (r, s, s, e, c, e) (unp ((KK a).getD (nxI a i (r, s, s, c, e, c)) 0)))) = i
  rw [n3, hback, hp, KK_rk hi]
/-- how many choices lead from i to j -/
noncomputable def nCh (a : AS) (i j : Nat) : Nat := sg (fun c => ind (vC a c ∧ okC a i (mC c) ∧ nxI a i (mC c) = j)) 256
theorem nCh_S (i j : Nat) : nCh a i j = sg (fun r => sg (fun s => sg (fun x => sg (fun w => ind (vS a r s x w ∧ okC a i (r, s, s, x, w, x) ∧ nxI a i (r, s, s, x, w, x) = j)) 4) 4) 4) 4 := by
  have := sg_ch (a := a) (fun m => okC a i m ∧ nxI a i m = j) (fun _ => 1)
  simp only [Nat.mul_one] at this
  exact this
theorem nCh_sy (hW : WF a) (hR : nR a ≠ 0) {i j : Nat} (hi : i < (KK a).length) (hj : j < (KK a).length) : nCh a i j = nCh a j i := by
  have one : ∀ {i j r s x w : Nat}, i < (KK a).length → vS a r s x w ∧ okC a i (r, s, s, x, w, x) ∧ nxI a i (r, s, s, x, w, x) = j → vS a r s w x ∧ okC a j (r, s, s, w, x, w) ∧ nxI a j (r, s, s, w, x, w) = i := by
    intro i j r s x w hi ⟨h1, h2, h3⟩
    have := okC_inv hW hR hi h1.1 h1.2.1 h2
    rw [h3] at this
    exact ⟨⟨h1.1, Ne.symm h1.2.1, h1.2.2.1, h1.2.2.2.1, h1.2.2.2.2.2, h1.2.2.2.2.1⟩, this⟩
  rw [nCh_S, nCh_S]
  refine sg_cg (fun r _ => sg_cg (fun s _ => ?_))
  rw [sg_sw (f := fun x w => ind (vS a r s x w ∧ okC a j (r, s, s, x, w, x) ∧ nxI a j (r, s, s, x, w, x) = i))]
  exact sg_cg (fun x _ => sg_cg (fun w _ => ind_iff ⟨one hi, one hj⟩))
/-- how many choices can be done at i -/
noncomputable def nOk (a : AS) (i : Nat) : Nat := sg (fun c => ind (vC a c ∧ okC a i (mC c))) 256
def chN (a : AS) : Nat := nR a * (nR a - 1) * nC a * (nC a - 1)
def chB (R C c : Nat) : Bool := decide (c / 64 ≠ c / 16 % 4) && (decide (c / 4 % 4 ≠ c % 4) && (decide (c / 64 < R) && (decide (c / 16 % 4 < R) && (decide (c / 4 % 4 < C) && decide (c % 4 < C)))))
theorem chB_sum : ∀ R, R < 5 → ∀ C, C < 5 → sg (fun c => if chB R C c = true then 1 else 0) 256 = R * (R - 1) * C * (C - 1) := by decide +kernel
theorem chN_le : ∀ R, R < 5 → ∀ C, C < 5 → R * (R - 1) * C * (C - 1) ≤ 144 := by decide +kernel
theorem vC_sum (hW : WF a) : sg (fun c => ind (vC a c)) 256 = chN a := by
  have hle := hW.le
  unfold chN
  rw [← chB_sum (nR a) (by omega) (nC a) (by omega)]
  refine sg_cg (fun c _ => ?_)
  by_cases q : vC a c
  · rw [ind_y q, if_pos]
    obtain ⟨q1, q2, q3, q4, q5, q6⟩ := q
    unfold chB
    simp only [Bool.and_eq_true, decide_eq_true_eq]
    exact ⟨q1, q2, q3, q4, q5, q6⟩
  · rw [ind_n q, if_neg]
    intro z
    unfold chB at z
    simp only [Bool.and_eq_true, decide_eq_true_eq] at z
    exact q z
/-- choices that can't be done -/
theorem nNo (hW : WF a) (i : Nat) : sg (fun c => ind (vC a c ∧ ¬ okC a i (mC c))) 256 = chN a - nOk a i ∧ nOk a i ≤ chN a := by
  have : sg (fun c => ind (vC a c)) 256 = nOk a i + sg (fun c => ind (vC a c ∧ ¬ okC a i (mC c))) 256 := by
    unfold nOk
    rw [← sg_add]
    refine sg_cg (fun c _ => ?_)
    by_cases q : vC a c
    · by_cases q2 : okC a i (mC c)
      · rw [ind_y q, ind_y ⟨q, q2⟩, ind_n (fun z => z.2 q2)]
      · rw [ind_y q, ind_n (fun z => q2 z.2), ind_y ⟨q, q2⟩]
    · rw [ind_n q, ind_n (fun z => q z.1), ind_n (fun z => q z.1)]
  rw [vC_sum hW] at this
  omega
theorem nOk_deg (hW : WF a) (i : Nat) : nOk a i = 2 * ((SWs a).filter (mvC (unp ((KK a).getD i 0)))).length := by
  have := sw_sum hW i (fun _ => 1) (fun _ _ _ _ _ _ => rfl)
  simp only [Nat.mul_one] at this
  unfold nOk
  rw [this]
  congr 1
  unfold Fs
  generalize (SWs a).filter (mvC (unp ((KK a).getD i 0))) = L
  induction L with
  | nil => rfl
  | cons x L ih =>
    rw [List.map_cons, List.sum_cons, ih, List.length_cons]
    omega
/-- rows of choices: how many of k lead from s to i -/
noncomputable def Wv (a : AS) (s : Nat) : Nat → Nat → Nat
  | 0, i => if i = s then 1 else 0
  | k + 1, i => Wv a s k i * (chN a - nOk a i) + sg (fun j => Wv a s k j * nCh a i j) (KK a).length
/-- by the near ones, as the class does -/
theorem Wv_near (hW : WF a) (hR : nR a ≠ 0) {i : Nat} (hi : i < (KK a).length) (f : Nat → Nat) : 2 * Fs (mvC (unp ((KK a).getD i 0))) (fun m => f (nxI a i m)) (SWs a) = sg (fun j => f j * nCh a i j) (KK a).length := by
  rw [← sw_sum hW i (fun m => f (nxI a i m)) (fun r s x w h1 h2 => by
    show f (nxI a i (s, r, r, w, x, w)) = f (nxI a i (r, s, s, x, w, x))
    rw [(okC_mir h1.1 h1.2.1 h2).2])]
  have e : ∀ j, f j * nCh a i j = sg (fun c => f j * ind (vC a c ∧ okC a i (mC c) ∧ nxI a i (mC c) = j)) 256 := fun j => (sg_mul _ _).symm
  rw [sg_cg (fun j _ => e j), sg_sw (f := fun j c => f j * ind (vC a c ∧ okC a i (mC c) ∧ nxI a i (mC c) = j))]
  refine sg_cg (fun c _ => ?_)
  by_cases q : vC a c ∧ okC a i (mC c)
  · rw [ind_y q, Nat.one_mul]
    obtain ⟨w1, w2, -⟩ := vC_m hW q.1
    have hn := (nxI_ok hW hR hi (m4_of hW w1) w2 q.2).1
    have := sg_ind (f := f) hn
    rw [← this]
    exact sg_cg (fun j _ => by rw [ind_iff (show nxI a i (mC c) = j ↔ vC a c ∧ okC a i (mC c) ∧ nxI a i (mC c) = j from ⟨fun z => ⟨q.1, q.2, z⟩, fun z => z.2.2⟩)])
  · rw [ind_n q, Nat.zero_mul]
    have : sg (fun j => f j * ind (vC a c ∧ okC a i (mC c) ∧ nxI a i (mC c) = j)) (KK a).length = sg (fun _ => 0) (KK a).length := sg_cg (fun j _ => by rw [ind_n (fun z => q ⟨z.1, z.2.1⟩), Nat.mul_zero])
    rw [this, sg_0]
/-- where a choice leads -/
noncomputable def dsC (a : AS) (k c : Nat) : Nat := @ite Nat (okC a k (mC c)) (Classical.propDecidable _) (nxI a k (mC c)) k
theorem dsC_y {k c : Nat} (h : okC a k (mC c)) : dsC a k c = nxI a k (mC c) := if_pos h
theorem dsC_n {k c : Nat} (h : ¬ okC a k (mC c)) : dsC a k c = k := if_neg h
theorem ds_cnt (hW : WF a) (k j : Nat) : sg (fun c => ind (vC a c ∧ dsC a k c = j)) 256 = nCh a k j + ind (k = j) * (chN a - nOk a k) := by
  rw [← (nNo hW k).1, ← sg_mul]
  unfold nCh
  rw [← sg_add]
  refine sg_cg (fun c _ => ?_)
  by_cases q : okC a k (mC c)
  · rw [dsC_y q, ind_n (p := vC a c ∧ ¬ okC a k (mC c)) (fun z => z.2 q), Nat.mul_zero, Nat.add_zero]
    exact ind_iff ⟨fun z => ⟨z.1, q, z.2⟩, fun z => ⟨z.1, z.2.2⟩⟩
  · rw [dsC_n q, ind_n (p := vC a c ∧ okC a k (mC c) ∧ nxI a k (mC c) = j) (fun z => q z.2.1), Nat.zero_add]
    by_cases q2 : vC a c
    · rw [ind_y (p := vC a c ∧ ¬ okC a k (mC c)) ⟨q2, q⟩, Nat.mul_one]
      exact ind_iff ⟨fun z => z.2, fun z => ⟨q2, z⟩⟩
    · rw [ind_n (p := vC a c ∧ ¬ okC a k (mC c)) (fun z => q2 z.1), Nat.mul_zero, ind_n (fun z => q2 z.1)]
/-- .. as the model does -/
theorem Wv_push (hW : WF a) (hR : nR a ≠ 0) {s k j : Nat} (hj : j < (KK a).length) : sg (fun i => Wv a s k i * sg (fun c => ind (vC a c ∧ dsC a i c = j)) 256) (KK a).length = Wv a s (k + 1) j := by
  show _ = Wv a s k j * (chN a - nOk a j) + sg (fun i => Wv a s k i * nCh a j i) (KK a).length
  have := sg_ind (f := fun i => Wv a s k i * (chN a - nOk a i)) hj
  rw [← this, ← sg_add]
  refine sg_cg (fun i hi => ?_)
  rw [ds_cnt hW, Nat.mul_add, nCh_sy hW hR hj hi, Nat.add_comm, Nat.mul_comm (ind (i = j)), ← Nat.mul_assoc, ind_iff (show i = j ↔ j = i from ⟨Eq.symm, Eq.symm⟩)]
theorem Fs_le {p : MVt → Bool} {F : MVt → Nat} {B : Nat} (h : ∀ m, F m ≤ B) (L : List MVt) : Fs p F L ≤ B * (L.filter p).length := by
  unfold Fs
  generalize L.filter p = M
  induction M with
  | nil => exact Nat.zero_le _
  | cons x M ih =>
    rw [List.map_cons, List.sum_cons, List.length_cons, Nat.mul_succ]
    have := h x
    omega
theorem Wv_le (hW : WF a) (hR : nR a ≠ 0) {s : Nat} : ∀ k i, i < (KK a).length → Wv a s k i ≤ chN a ^ k
  | 0, i, _ => by
    show (if i = s then 1 else 0) ≤ 1
    split <;> omega
  | k + 1, i, hi => by
    have ih := Wv_le hW hR (s := s) k
    show Wv a s k i * (chN a - nOk a i) + sg (fun j => Wv a s k j * nCh a i j) (KK a).length ≤ chN a ^ k * chN a
    have e : sg (fun j => Wv a s k j * nCh a i j) (KK a).length ≤ chN a ^ k * sg (fun j => nCh a i j) (KK a).length := by
      have : ∀ n, n ≤ (KK a).length → sg (fun j => Wv a s k j * nCh a i j) n ≤ chN a ^ k * sg (fun j => nCh a i j) n := by
        intro n
        induction n with
        | zero => intro _; exact Nat.zero_le _
        | succ n ihn =>
          intro hn
          show sg (fun j => Wv a s k j * nCh a i j) n + Wv a s k n * nCh a i n ≤ chN a ^ k * (sg (fun j => nCh a i j) n + nCh a i n)
          rw [Nat.mul_add]
          exact Nat.add_le_add (ihn (by omega)) (Nat.mul_le_mul_right _ (ih n (by omega)))
      exact this _ (Nat.le_refl _)
    have e2 : sg (fun j => nCh a i j) (KK a).length = nOk a i := by
      have h1 := Wv_near hW hR hi (fun _ => 1)
      simp only [Nat.one_mul] at h1
      rw [← h1, ← sw_sum hW i (fun _ => 1) (fun _ _ _ _ _ _ => rfl)]
      unfold nOk
      exact sg_cg (fun c _ => Nat.mul_one _)
    rw [e2] at e
    have h1 : Wv a s k i * (chN a - nOk a i) ≤ chN a ^ k * (chN a - nOk a i) := Nat.mul_le_mul_right _ (ih i hi)
    have h2 := (nNo hW i).2
    have h3 : chN a ^ k * (chN a - nOk a i) + chN a ^ k * nOk a i = chN a ^ k * chN a := by
      rw [← Nat.mul_add, Nat.sub_add_cancel h2]
    omega
theorem Wv_lt (hW : WF a) (hR : nR a ≠ 0) {s k i : Nat} (hk : k ≤ 4) (hi : i < (KK a).length) : Wv a s k i < 2 ^ 62 := by
  have hle := hW.le
  have h1 := Wv_le hW hR (s := s) k i hi
  have h2 : chN a ≤ 144 := chN_le (nR a) (by omega) (nC a) (by omega)
  have h3 : chN a ^ k ≤ 144 ^ k := Nat.pow_le_pow_left h2 k
  have h4 : 144 ^ k ≤ 144 ^ 4 := Nat.pow_le_pow_right (by decide) hk
  have h5 : 144 ^ 4 < 2 ^ 62 := by decide
  omega
end WZ
